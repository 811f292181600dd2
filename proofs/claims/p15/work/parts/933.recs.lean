/-! records: both sides, field by field -/
/-- a child of a record's rows x and v: told, or (in the reference alone) filled in -/
def RCH (p : Nat) (S T : ST) (n x v R : Nat) (σ τ : ST) (y : EN) : Prop := ((inA y = true ∧ KID 62 σ τ x v y) ∧ VAL False 62 p S T σ τ n (S.1 13 (8 * R + y.1)) (T.1 15 (8 * R + y.1)) y.2.1 y.2.2) ∨ inA y = false ∧ ELN T τ v (8 * R + y.1) y
theorem RCH.ext {p : Nat} {S T : ST} {n x v R : Nat} {σ τ s t : ST} {y : EN} (h : RCH p S T n x v R σ τ y) (hn : y.2.2.1 < y.2.2.2) (hA : inA y = true → AGA 62 σ s y.2.1.1 y.2.1.2) (hB : AGB τ t y.2.2.1 y.2.2.2) : RCH p S T n x v R s t y := by
  rcases h with h | ⟨h, k⟩
  · have := inA_lt h.1.1
    have hA := hA h.1.1
    exact .inl ⟨⟨h.1.1, h.1.2.ext (hA _ (by omega) (by omega)).1 (hB _ (by omega) (by omega)).1⟩, h.2.ext _ _ _ _ _ hA hB⟩
  · have h9 := hB _ (Nat.le_refl _) hn
    exact .inr ⟨h, k.ext h9.1 h9.2.1⟩
theorem RCH.pl {p : Nat} {S T : ST} {n x v R : Nat} {σ τ : ST} {y : EN} (h : RCH p S T n x v R σ τ y) : (inA y = true → (σ.1 (62 + 3) y.2.1.1).toInt = y.1) ∧ (τ.1 25 y.2.2.1).toInt = y.1 := by
  rcases h with h | ⟨h, k⟩
  · exact ⟨fun _ => h.1.2.1.2, h.1.2.2.1.2⟩
  · exact ⟨fun h9 => (by rw [h] at h9; cases h9), k.1.2.1⟩
/-- while the fields of a record are told (w: those that were), or filled in up to the k-th -/
def RLI (p : Nat) (S T : ST) (L R m x v : Nat) (a t : ST) (w k : Nat) (F : Int) (σ τ : ST) (e f : Nat) (l : List EN) : Prop := (CXT S T σ τ e f F ∧ x < e ∧ v < f) ∧ (SUA 62 x a σ ∧ SUB v t τ) ∧ (w < 512 ∧ (∀ y, y ∈ l → y.1 < m ∧ (inA y = false → y.1 < k)) ∧ (∀ j, j < 8 → (w.testBit j = true ↔ ∃ y, y ∈ l ∧ inA y = true ∧ y.1 = j)) ∧ ∀ j, j < k → ∃ y, y ∈ l ∧ y.1 = j) ∧ KDS 62 σ τ (x, e) (v, f) l (RCH p S T (31 - L) x v R σ τ) ∧ (σ.1 (62 + 4) x = 0 ∧ σ.2.1 (62 + 6) x = 0) ∧ (τ.2.1 21 v = 0 ∧ τ.2.1 22 v = 0) ∧ (τ.1 20 v).toInt = 7
/-- a record's fields told and filled in -/
def PPO (p : Nat) (S T : ST) (L R m x v : Nat) (a t a' b' : ST) : Prop := ∃ (e f : Nat) (l : List EN), (CXT S T a' b' e f (1000 + L + 1) ∧ x < e ∧ v < f) ∧ (SUA 62 x a a' ∧ SUB v t b') ∧ l.map (fun y => y.1) = List.range m ∧ KDS 62 a' b' (x, e) (v, f) l (RCH p S T (31 - L) x v R a' b') ∧ a'.2.1 (62 + 6) x = 0 ∧ b'.2.1 21 v = 0 ∧ b'.2.1 22 v = 0
theorem RLI.len {p : Nat} {S T : ST} {L R m x v : Nat} {a t : ST} {w k : Nat} {F : Int} {σ τ : ST} {e f : Nat} {l : List EN} (h : RLI p S T L R m x v a t w k F σ τ e f l) : l.length ≤ m := by
  have := ln_list (l.map (fun y => y.1)) 0 m h.2.2.2.1.2.1.2 (fun i hi => by
    obtain ⟨y, hy, e⟩ := List.mem_map.mp hi
    have := (h.2.2.1.2.1 y hy).1
    omega)
  rw [List.length_map] at this
  omega
theorem RLI.rows {p : Nat} {S T : ST} {L R m x v : Nat} {a t : ST} {w k : Nat} {F : Int} {σ τ : ST} {e f : Nat} {l : List EN} (h : RLI p S T L R m x v a t w k F σ τ e f l) : (∀ r, r ∈ rA l → x < r) ∧ ∀ r, r ∈ rB l → v < r ∧ r < f := by
  have hK := h.2.2.2.1
  refine ⟨fun r hr => ?_, fun r hr => ?_⟩
  · obtain ⟨y, y1, y2, y3⟩ := mem_rA hr
    have k : x < y.2.1.1 := ((hK.2.2.2 y y1).2.1.1 y2).1
    omega
  · obtain ⟨y, y1, y3⟩ := mem_rB hr
    have k : v < y.2.2.1 ∧ y.2.2.1 < y.2.2.2 ∧ y.2.2.2 ≤ f := (hK.2.2.2 y y1).1
    omega
theorem RLI.par {p : Nat} {S T : ST} {L R m x v : Nat} {a t : ST} {w k : Nat} {F : Int} {σ τ : ST} {e f : Nat} {l1 l2 : List EN} (h : RLI p S T L R m x v a t w k F σ τ e f (l1 ++ l2)) {row wB pl : Int32} {j : Nat} (hr : row.toInt = x) (hw : wB.toInt = v) (hp : pl.toInt = j) (hj : j < 8) (h1 : ∀ y, y ∈ l1 → y.1 < j) (h2 : ∀ y, y ∈ l2 → j < y.1) : PAR σ τ e f row wB pl l1 l2 := by
  obtain ⟨⟨_, h3, h4⟩, _, _, hK, _⟩ := h
  refine .inr ⟨x, v, _, ⟨⟨hr, h3⟩, hw, h4⟩, hK, fun y hy => ?_, fun y hy => ?_, fun y hy => ?_, ⟨by omega, by omega⟩, .inl (by omega)⟩
  · exact (hK.2.2.2 y hy).2.2.pl
  · have := h1 y hy
    omega
  · have := h2 y hy
    omega
theorem tb_set {w j : Nat} (hw : w < 512) (hj : j < 9) (h0 : w.testBit j = false) : ((Int32.ofNat w) ||| (1 <<< ((Int32.ofNat j) &&& 31))) = Int32.ofNat (w + 2 ^ j) ∧ w + 2 ^ j < 512 ∧ ∀ i : Nat, i < 9 → ((w + 2 ^ j).testBit i = true ↔ w.testBit i = true ∨ i = j) := by
  obtain ⟨h1, h2, _, h3⟩ := mk_or w hw j hj h0
  refine ⟨h1, h2, fun i hi => ?_⟩
  rw [h3 i hi]
  cases e : w.testBit i with
  | true => simp
  | false => simp
/-- one field more, told -/
theorem RLI.add {p : Nat} {S T : ST} {L R m x v : Nat} {a t : ST} {w : Nat} {F : Int} {σ τ s u : ST} {e f : Nat} {l1 l2 : List EN} (h : RLI p S T L R m x v a t w 0 F σ τ e f (l1 ++ l2)) {row wB pl : Int32} {j : Nat} (hr : row.toInt = x) (hw : wB.toInt = v) (hp : pl.toInt = j) (hj : j < m) (hm : m ≤ 8) (h1 : ∀ y, y ∈ l1 → y.1 < j) (h2 : ∀ y, y ∈ l2 → j < y.1) (h0 : w.testBit j = false) (hL : L ≤ 30) (hV : VPOST p S T (L + 1) (S.1 13 (8 * R + j)) (T.1 15 (8 * R + j)) e f row wB pl l1 l2 σ τ s u) : ∃ e' f', RLI p S T L R m x v a t (w + 2 ^ j) 0 (1000 + (L + 1 : Nat) + 1) s u e' f' (l1 ++ (j, (e, e'), (f, f')) :: l2) := by
  have hrow := h.rows
  have hlen := h.len
  obtain ⟨⟨_, h3, h4⟩, ⟨hs1, hs2⟩, ⟨h5, h6, h7, _⟩, hK, ⟨h8, h8b⟩, ⟨h9, h9b⟩, h10⟩ := h
  obtain ⟨e', f', hC, ⟨g1, g2, hk⟩, hVal, ⟨⟨g3, g4⟩, ⟨g5, g6⟩, g7⟩, hXA, hXB⟩ := hV
  rw [hr] at hXA
  rw [hw] at hXB
  have hsu : SUA 62 x σ s := hXA.su h3 (fun r hr => hrow.1 r (by rw [rA_app]; exact List.mem_append_left _ hr))
  have hsb : SUB v τ u := hXB.su h4 (fun r hr => (hrow.2 r (by rw [rB_app]; exact List.mem_append_left _ hr)).1)
  obtain ⟨_, b1, b2⟩ := tb_set h5 (by omega) h0
  have hin : inA (j, (e, e'), (f, f')) = true := decide_eq_true g1
  have hmem : ∀ y, y ∈ l1 ++ (j, (e, e'), (f, f')) :: l2 → y = (j, (e, e'), (f, f')) ∨ y ∈ l1 ++ l2 := fun y hy => by
    rcases List.mem_append.mp hy with hy | hy
    · exact .inr (List.mem_append_left _ hy)
    · rcases List.mem_cons.mp hy with hy | hy
      · exact .inl hy
      · exact .inr (List.mem_append_right _ hy)
  have hmem2 : ∀ y, y ∈ l1 ++ l2 → y ∈ l1 ++ (j, (e, e'), (f, f')) :: l2 := fun y hy => by
    rcases List.mem_append.mp hy with hy | hy
    · exact List.mem_append_left _ hy
    · exact List.mem_append_right _ (List.mem_cons_of_mem _ hy)
  refine ⟨e', f', ⟨hC, by omega, by omega⟩, ⟨hs1.trans hsu, hs2.trans hsb⟩, ⟨b1, fun y hy => ?_, fun i hi => ?_, fun i hi => by omega⟩, ?_, ⟨?_, ?_⟩, ⟨?_, ?_⟩, ?_⟩
  · rcases hmem y hy with e9 | hy
    · rw [e9]
      exact ⟨hj, fun h => by rw [hin] at h; cases h⟩
    · exact h6 y hy
  · rw [b2 i (by omega), h7 i hi]
    constructor
    · rintro (⟨y, hy, k1, k2⟩ | e9)
      · exact ⟨y, hmem2 y hy, k1, k2⟩
      · exact ⟨_, List.mem_append_right _ List.mem_cons_self, hin, e9.symm⟩
    · rintro ⟨y, hy, k1, k2⟩
      rcases hmem y hy with e9 | hy
      · rw [e9] at k2
        exact .inr k2.symm
      · exact .inl ⟨y, hy, k1, k2⟩
  · refine KDS.add hK hXA hXB h3 h4 g1 g2 (by omega) h1 h2 (fun y hy hy1 hyA hyB hQ => hQ.ext hy1.2 hyA hyB) (.inl ⟨⟨hin, ⟨⟨?_, ?_⟩, ⟨?_, ?_⟩, g7⟩⟩, ?_⟩)
    · show (s.1 (62 + 2) e).toInt = x
      rw [g3]
      exact hr
    · show (s.1 (62 + 3) e).toInt = j
      rw [g4]
      exact hp
    · show (u.1 24 f).toInt = v
      rw [g5]
      exact hw
    · show (u.1 25 f).toInt = j
      rw [g6]
      exact hp
    · have e9 : 32 - (L + 1) = 31 - L := by omega
      rw [e9] at hVal
      exact hVal
  · rw [(hXA.1 x h3).1 4 (by omega) (by omega)]
    exact h8
  · rw [(hXA.1 x h3).2]
    exact h8b
  · rw [(hXB.1.1 v h4).2.2.1]
    exact h9
  · rw [(hXB.1.1 v h4).2.2.2]
    exact h9b
  · rw [(hXB.1.1 v h4).1]
    exact h10
/-- one field more, filled in -/
theorem RLI.fil {p : Nat} {S T : ST} {L R m x v : Nat} {a t : ST} {w k : Nat} {F : Int} {σ τ u : ST} {e f : Nat} {l1 l2 : List EN} (h : RLI p S T L R m x v a t w k F σ τ e f (l1 ++ l2)) (hk : k < m) (hm : m ≤ 8) (h1 : ∀ y, y ∈ l1 → y.1 < k) (h2 : ∀ y, y ∈ l2 → k < y.1) (hV : FIL T v (8 * R + k) k f (rB l1) (rB l2) τ u) : RLI p S T L R m x v a t w (k + 1) F σ u e (f + 1) (l1 ++ (k, (0, 0), (f, f + 1)) :: l2) := by
  have hrow := h.rows
  have hlen := h.len
  obtain ⟨⟨⟨⟨hC1, hC2⟩, hC3, hC4, hC5, hC6⟩, h3, h4⟩, ⟨hs1, hs2⟩, ⟨h5, h6, h7, h7b⟩, hK, ⟨h8, h8b⟩, ⟨h9, h9b⟩, h10⟩ := h
  obtain ⟨hE, hXB, hv, hkv, e0, e1, eL, eE⟩ := hV
  have hsb : SUB v τ u := hXB.su h4 (fun r hr => (hrow.2 r (by rw [rB_app]; exact List.mem_append_left _ hr)).1)
  have hin : inA (k, (0, 0), (f, f + 1)) = false := rfl
  have hmem : ∀ y, y ∈ l1 ++ (k, (0, 0), (f, f + 1)) :: l2 → y = (k, (0, 0), (f, f + 1)) ∨ y ∈ l1 ++ l2 := fun y hy => by
    rcases List.mem_append.mp hy with hy | hy
    · exact .inr (List.mem_append_left _ hy)
    · rcases List.mem_cons.mp hy with hy | hy
      · exact .inl hy
      · exact .inr (List.mem_append_right _ hy)
  have hmem2 : ∀ y, y ∈ l1 ++ l2 → y ∈ l1 ++ (k, (0, 0), (f, f + 1)) :: l2 := fun y hy => by
    rcases List.mem_append.mp hy with hy | hy
    · exact List.mem_append_left _ hy
    · exact List.mem_append_right _ (List.mem_cons_of_mem _ hy)
  have hX : LX σ u := hC3.1.ext rfl rfl rfl rfl e1 (fun i hi => e0 i (fun e => by rw [e] at hi; revert hi; decide)) eL
  have hW : TWX σ u := hC3.2.ext rfl rfl (e0 8 (by omega)) eL eE
  have hu := (TX.ext hC3.1.tx e0).2
  refine ⟨⟨⟨⟨hC1, hC2.trans hkv⟩, ⟨hX, hW⟩, hC4, by omega, by omega⟩, h3, by omega⟩, ⟨hs1, hs2.trans hsb⟩, ⟨h5, fun y hy => ?_, fun i hi => ?_, fun i hi => ?_⟩, ?_, ⟨h8, h8b⟩, ⟨?_, ?_⟩, ?_⟩
  · rcases hmem y hy with e9 | hy
    · rw [e9]
      exact ⟨hk, fun _ => Nat.lt_succ_self k⟩
    · exact ⟨(h6 y hy).1, fun h => by have := (h6 y hy).2 h; omega⟩
  · rw [h7 i hi]
    constructor
    · rintro ⟨y, hy, k1, k2⟩
      exact ⟨y, hmem2 y hy, k1, k2⟩
    · rintro ⟨y, hy, k1, k2⟩
      rcases hmem y hy with e9 | hy
      · rw [e9, hin] at k1
        cases k1
      · exact ⟨y, hy, k1, k2⟩
  · rcases Nat.lt_or_ge i k with hi | hi
    · obtain ⟨y, hy, e9⟩ := h7b i hi
      exact ⟨y, hmem2 y hy, e9⟩
    · exact ⟨_, List.mem_append_right _ List.mem_cons_self, by show k = i; omega⟩
  · exact KDS.addB hK hXB h4 (by omega) (by omega) h1 h2 (fun y hy hy1 hyB hQ => hQ.ext hy1.2 (fun _ j _ _ => ⟨⟨fun _ _ _ => rfl, rfl⟩, rfl, rfl, fun _ => rfl⟩) hyB) (.inr ⟨hin, hE⟩)
  · rw [(hXB.1.1 v h4).2.2.1]
    exact h9
  · rw [(hXB.1.1 v h4).2.2.2]
    exact h9b
  · rw [(hXB.1.1 v h4).1]
    exact h10
theorem RLI.go {p : Nat} {S T : ST} {L R m x v : Nat} {a t : ST} {w k : Nat} {F : Int} {σ τ s u : ST} {e f : Nat} {l : List EN} (h : RLI p S T L R m x v a t w k F σ τ e f l) (ca : CA σ s) (hb : GOF τ s u ((uT τ : Int) - 1)) : RLI p S T L R m x v a t w k (F - 1) s u e f l := by
  obtain ⟨⟨hC, h1, h2⟩, ⟨hs1, hs2⟩, h3, hK, ⟨h5, h5b⟩, ⟨h6, h6b⟩, h7⟩ := h
  refine ⟨⟨hC.go ca hb, h1, h2⟩, ⟨hs1.trans ca.sua, hs2.trans hb.sub⟩, h3, ?_, ⟨?_, ?_⟩, ⟨?_, ?_⟩, ?_⟩
  · refine hK.sam ca.sam hb.sbm (by rw [ca.1 _ (by omega)]) (by rw [ca.1 _ (by omega)]) (by rw [hb.1.1 _ (by omega)]) (by rw [hb.1.1 _ (by omega)]) (by rw [hb.1.1 _ (by omega)]) (fun y _ hx hv hn hQ => hQ.ext hn (fun hi => ca.sam.ag (hx hi)) (hb.sbm.ag hv))
  · rw [ca.1 _ (by omega)]
    exact h5
  · rw [ca.2.2.1 _ (by omega)]
    exact h5b
  · rw [hb.1.2.2 _ (by omega)]
    exact h6
  · rw [hb.1.2.2 _ (by omega)]
    exact h6b
  · rw [hb.1.1 _ (by omega)]
    exact h7
theorem RLI.next {p : Nat} {S T : ST} {L R m x v : Nat} {a t : ST} {w k : Nat} {F : Int} {σ τ : ST} {e f : Nat} {l : List EN} (h : RLI p S T L R m x v a t w k F σ τ e f l) (hk : ∃ y, y ∈ l ∧ y.1 = k) : RLI p S T L R m x v a t w (k + 1) F σ τ e f l := by
  obtain ⟨h1, h2, ⟨h3, h4, h5, h6⟩, h7⟩ := h
  refine ⟨h1, h2, ⟨h3, fun y hy => ⟨(h4 y hy).1, fun h => by have := (h4 y hy).2 h; omega⟩, h5, fun j hj => ?_⟩, h7⟩
  rcases Nat.lt_or_ge j k with h9 | h9
  · exact h6 j h9
  · rw [show j = k by omega]
    exact hk
/-- the mask as the class asks it -/
theorem a_bit {w j : Nat} (hw : w < 512) (hj : j < 9) (x : Int32) (hx : x.toInt = j) : (((Int32.ofNat w) >>> (x &&& 31)) &&& 1).toInt = (if w.testBit j then 1 else 0) := by
  rw [intOf hx (by omega)]
  exact mk_bit w hw j hj
/-- the record that is told: its number in the plan, its row, its fields -/
def REC (p : Nat) (rm : Int) (S T : ST) (R m : Nat) : Prop := R < 36 ∧ ((S.1 7 R).toInt = m ∧ (T.1 11 R).toInt = m ∧ m ≤ 8) ∧ ELH 4 R m S T ∧ ∀ j : Nat, j < m → FLH 4 p rm (8 * R + j) S T
theorem PHB.rec {p : Nat} {S T : ST} (h : PHB 4 p S T) (hp : p < 6) {i : Nat} (hi : (i : Int) < (T.1 8 p).toInt) : ∃ m, REC p (T.1 8 p).toInt S T (6 * p + i) m := by
  obtain ⟨_, h2, h3, h4, h5⟩ := h.acc hi
  have h6 := h.cnt.2.1.2
  unfold bI at h3
  refine ⟨(T.1 11 (6 * p + i)).toInt.toNat, by omega, ⟨by rw [h2]; omega, by omega, by omega⟩, h4, fun j hj => h5 j (by omega)⟩
theorem REC.els {p : Nat} {rm : Int} {S T : ST} {R m : Nat} (h : REC p rm S T R m) {j : Nat} (hj : j < m) : (T.1 16 (8 * R + j)).toInt = 0 ∨ (T.1 16 (8 * R + j)).toInt = 1 := by
  rcases (h.2.2.2 j hj).2.2.2 with h | h
  · exact .inl h
  · exact .inr h.1
theorem ELH.kv {R m : Nat} {S T σ τ : ST} (h : ELH 4 R m S T) (kA : KVA S σ) (kB : KVB T τ) : ELH 4 R m σ τ := by
  obtain ⟨w, w1, w2, w3⟩ := h
  have e9 : σ.1 9 = S.1 9 := kA.t.2.1.1
  have e16 : τ.1 16 = T.1 16 := kB.t.2.1.2.2.1
  refine ⟨w, w1, ?_, fun i hi => ?_⟩
  · show σ.1 9 R = _
    rw [e9]
    exact w2
  · rw [e16]
    exact w3 i hi
theorem kv_fieldsOf {S σ : ST} (k : KVA S σ) (p0 : Int32) {R : Nat} (h0 : p0.toInt = R) (hR : R < 36) : f_X5_fieldsOf 4 p0 σ = some (S.1 7 R, σ) := by
  rw [a4_fieldsOf p0 σ h0 hR, k.t.1.2]
/-- the record ends -/
theorem ab_close {ri rp : Int32 → Int32 → Int32 → Int32 → ST → Option ((Int32 × ST) × Nat)} {rv : Int32 → Int32 → Int32 → Int32 → Int32 → ST → Option ((Int32 × ST) × Nat)} {p : Nat} {rm : Int} {S T : ST} {L R m x v : Nat} {wB xA xB : Int32} {a t : ST} (hR : REC p rm S T R m) (hw : wB.toInt = v) (hxA : xA.toInt = R) (hxB : xB.toInt = R) : ∀ (n n' k w : Nat) (x3 x7 : Int32) (σ τ : ST) (e f : Nat) (l : List EN), x3.toInt = k → x7.toInt = k → k ≤ m → RLI p S T L R m x v a t w k (1000 + L + 1 + 1) σ τ e f l → (σ.1 2 4).toInt = 125 → QT (f_X8_closeRecord_2 n xA (Int32.ofNat w) x3 σ) (fun qa => QT (f_X11_parts_171 ri rp rv n' wB xB x7 τ) (fun qb => VOUT L (PPO p S T L R m x v a t) qa qb.1)) := by
  have l0 := li_0
  have l1 := li_1
  obtain ⟨hR36, ⟨hm1, hm2, hm8⟩, hELH, hFLH⟩ := id hR
  intro n
  induction n with
  | zero =>
    intro n' k w x3 x7 σ τ e f l _ _ _ _ _
    rw [f_X8_closeRecord_2]
    exact QT.none
  | succ n ih =>
    intro n' k w x3 x7 σ τ e f l h3 h7 hk hI h125
    have e37 : x3 = x7 := Int32.toInt_inj.mp (by omega)
    subst e37
    cases n' with
    | zero =>
      rw [f_X11_parts_171]
      exact fun _ _ => QT.none
    | succ n' =>
      have hC := hI.1.1
      have kA := hC.1.1
      have kB := hC.1.2
      have hX := hC.2.1.1
      have hK := hX.2.2.1
      obtain ⟨_, ⟨k11, k15, k16, _⟩, _⟩ := kB.t
      have nB : xB.toNatClampNeg = R := nC hxB
      rw [f_X8_closeRecord_2, f_X11_parts_171]
      rw [kv_fieldsOf kA xA hxA hR36]
      rw [sbnd]
      dsimp only
      rw [k11, nB]
      refine QT.sw ?_
      refine QT.grd (fun _ => ?_)
      have e3 := il_addE (x := x3) (y := 1) (by omega) (by omega)
      refine QT.ile (fun hle => ?_) (fun hlt => ?_)
      · -- all were told or filled in
        refine QT.sw ?_
        refine QT.ile (fun _ => ?_) (fun h => by omega)
        refine QT.bnd2 (Q := fun s z => CA σ s ∧ GOF τ s z ((uT τ : Int) - 1)) ((ab_gof σ τ hX (by omega) (by omega)).mono (fun s hs => hs.2.mono (fun z hz => ⟨hs.1, hz⟩))) (fun s z hq => QT.ret (QT.ret (.inr ⟨l1, l1, ?_⟩)))
        obtain ⟨g1, g2, g3, g4, g5, g6, _⟩ := hI.go hq.1 hq.2
        rw [show (1000 + (L : Int) + 1 + 1 - 1) = 1000 + L + 1 by omega] at g1
        refine ⟨e, f, l, g1, g2, ?_, g4, g5.2, g6⟩
        rw [List.range_eq_range']
        refine rg_list m 0 _ g4.2.1.2 (fun i hi => ?_) (fun j _ hj => ?_)
        · obtain ⟨y, hy, e9⟩ := List.mem_map.mp hi
          have := (g3.2.1 y hy).1
          omega
        · obtain ⟨y, hy, e9⟩ := g3.2.2.2 j (by omega)
          exact List.mem_map.mpr ⟨y, hy, e9⟩
      · have hkm : k < m := by omega
        have hpl : ∀ y, y ∈ l → (τ.1 25 y.2.2.1).toInt = y.1 := fun y hy => ((hI.2.2.2.1.2.2.2 y hy).2.2.pl).2
        have hbit := a_bit (w := w) (j := k) hI.2.2.1.1 (by omega) x3 h3
        refine QT.bnd (q_hasChild wB x3 τ (l := l) hw h3 hI.2.2.2.1.1.2.1 hpl) (fun q hq => ?_)
        obtain ⟨c, s⟩ := q
        obtain ⟨es, hq⟩ := hq
        have es : s = τ := es
        subst es
        have hq : c.toInt = 0 ∧ (∀ y, y ∈ l → ¬ y.1 = k) ∨ c.toInt = 1 ∧ ∃ y, y ∈ l ∧ y.1 = k := hq
        dsimp only
        have N8 : ((8 * xB) + x3).toNatClampNeg = 8 * R + k := by
          have e1 := mlE (k := 8) (y := xB) 8 li_8 (by omega) (by omega)
          have e2 := il_addE (x := 8 * xB) (y := x3) (by omega) (by omega)
          exact nC (by omega)
        have N8i : ((8 * xB) + x3).toInt = (8 * R + k : Nat) := by
          have e1 := mlE (k := 8) (y := xB) 8 li_8 (by omega) (by omega)
          have e2 := il_addE (x := 8 * xB) (y := x3) (by omega) (by omega)
          omega
        refine QT.ieq (fun hc0 => ?_) (fun hc0 => ?_)
        · -- it was not told
          have hno : ∀ y, y ∈ l → ¬ y.1 = k := by
            rcases hq with hq | hq
            · exact hq.2
            · have := hq.1
              omega
          have hwb : w.testBit k = false := by
            cases hb : w.testBit k with
            | false => rfl
            | true =>
              obtain ⟨y, hy, _, e9⟩ := (hI.2.2.1.2.2.1 k (by omega)).mp hb
              exact absurd e9 (hno y hy)
          rw [hwb, if_neg (by decide)] at hbit
          refine QT.grd (fun _ => ?_)
          rw [N8, k16]
          have hh := (hELH.kv kA kB).has hR36 xA x3 hxA h3 hkm (by omega) (by rw [k16]; exact hR.els hkm)
          refine QT.ieq (fun he => ?_) (fun he => ?_)
          · refine QT.sw ?_
            refine QT.ile (fun h => by omega) (fun _ => ?_)
            refine QT.ieq (fun _ => ?_) (fun h => by omega)
            refine QT.bndR hh (fun z hz => ?_)
            rw [k16] at hz
            dsimp only
            refine QT.ieq (fun _ => ?_) (fun hz1 => ?_)
            · refine (qa_ref 6 σ).mono (fun u hu => ?_)
              exact (qb_wr 6 s).mono (fun y hy => .inl ⟨hu, .inl hy⟩)
            · exfalso
              rcases hz with hz | hz
              · have := hz.1
                omega
              · exact hz.2 (Int32.toInt_inj.mp he)
          · obtain ⟨l1', l2', el, hl1, hl2⟩ := spt_list l hI.2.2.2.1.2.1.2 k hno
            subst el
            have hrw := hI.rows.2
            have hKd := hI.2.2.2.1
            refine QT.bnd (q_fills (T := T) (S := S) (p := p) (rm := rm) (d := 3) (x := S.1 13 (8 * R + k)) ((8 * xB) + x3) wB x3 (N := 8 * R + k) (v0 := v) (j := k) (v := f) (l := rB l1') (m := rB l2') kB N8i hw h3 hC.2.2.2.1 hI.1.2.2 (hFLH k hkm).2.2.1 (fun h => he (by rw [h]; rfl)) (fun r hr => by rw [← rB_app] at hr; exact (hrw r hr).2) ?_ (fun r hr => ?_) (fun r hr => ?_)) (fun z hz => ?_)
            · rw [← rB_app]
              exact ⟨rB_nd hKd.2.1.1 (fun y hy => (hKd.2.2.2 y hy).1.2.1), hKd.1.2.1, hKd.1.2.2⟩
            · obtain ⟨y, y1, y3⟩ := mem_rB hr
              have := hpl y (List.mem_append_left _ y1)
              have := hl1 y y1
              rw [y3]
              omega
            · obtain ⟨y, y1, y3⟩ := mem_rB hr
              have := hpl y (List.mem_append_right _ y1)
              have := hl2 y y1
              rw [y3]
              omega
            · unfold f_X11_parts_233
              refine QT.sw ?_
              refine QT.ile (fun h => by omega) (fun _ => ?_)
              refine QT.ieq (fun _ => ?_) (fun h => by omega)
              refine QT.bndR hh (fun z9 hz9 => ?_)
              rw [k16] at hz9
              dsimp only
              refine QT.ieq (fun hz1 => ?_) (fun _ => ?_)
              · exfalso
                rcases hz9 with hz9 | hz9
                · exact he (by rw [hz9.2])
                · have := hz9.1
                  omega
              · unfold f_X8_closeRecord_44
                exact ih n' (k + 1) w (x3 + 1) (x3 + 1) σ z e (f + 1) _ (by omega) (by omega) (by omega) (hI.fil hkm hm8 hl1 hl2 hz) h125
        · -- it was told
          have hy : ∃ y, y ∈ l ∧ y.1 = k := by
            rcases hq with hq | hq
            · have := hq.1
              omega
            · exact hq.2
          have hwb : w.testBit k = true := by
            obtain ⟨y, hy, e9⟩ := hy
            refine (hI.2.2.1.2.2.1 k (by omega)).mpr ⟨y, hy, ?_, e9⟩
            cases hb : inA y with
            | true => rfl
            | false =>
              have := (hI.2.2.1.2.1 y hy).2 hb
              omega
          rw [hwb, if_pos rfl] at hbit
          unfold f_X11_parts_233
          refine QT.sw ?_
          refine QT.ile (fun h => by omega) (fun _ => ?_)
          refine QT.ieq (fun h => by omega) (fun _ => ?_)
          unfold f_X8_closeRecord_44
          exact ih n' (k + 1) w (x3 + 1) (x3 + 1) σ s e f l (by omega) (by omega) (by omega) (hI.next hy) h125
