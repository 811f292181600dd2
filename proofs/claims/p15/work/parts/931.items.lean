/-! lists: both sides, item by item -/
theorem DMD.of {L M : Int} {b : ST} (h : DMD L b) (e : L = M) : DMD M b := e ▸ h
theorem CXT.go {S T σ τ a b : ST} {x v : Nat} {F : Int} (h : CXT S T σ τ x v F) (ca : CA σ a) (hb : GOF τ a b ((uT τ : Int) - 1)) : CXT S T a b x v (F - 1) := by
  obtain ⟨⟨h1, h2⟩, _, ⟨h3, h4⟩, h5, h6⟩ := h
  have hu := hb.2.2.2
  refine ⟨⟨h1.trans ca.kva, h2.trans hb.2.1⟩, hb.2.2.1, ⟨?_, ?_⟩, ?_, by omega⟩
  · rw [ca.1 62 (by omega)]
    exact h3
  · rw [ca.1 62 (by omega)]
    exact h4
  · rw [hb.1.2.1]
    exact h5
/-- all rows behind x stayed -/
def SAM (b x : Nat) (σ s : ST) : Prop := ∀ j, x < j → CLA b σ s j ∧ s.1 (b + 7) j = σ.1 (b + 7) j ∧ s.1 (b + 8) j = σ.1 (b + 8) j ∧ s.1 (b + 9) j = σ.1 (b + 9) j
def SBM (v : Nat) (τ t : ST) : Prop := ∀ j, v < j → CLB τ t j ∧ t.1 28 j = τ.1 28 j ∧ t.1 29 j = τ.1 29 j ∧ t.1 30 j = τ.1 30 j
theorem SAM.ag {b x y e : Nat} {σ s : ST} (h : SAM b x σ s) (hx : x < y) : AGA b σ s y e := fun j h1 _ => ⟨(h j (by omega)).1, (h j (by omega)).2.1, (h j (by omega)).2.2.1, fun _ => (h j (by omega)).2.2.2⟩
theorem SBM.ag {v y f : Nat} {τ t : ST} (h : SBM v τ t) (hx : v < y) : AGB τ t y f := fun j h1 _ => ⟨(h j (by omega)).1, (h j (by omega)).2.1, (h j (by omega)).2.2.1, fun _ => (h j (by omega)).2.2.2⟩
theorem SAM.eq {b x : Nat} {σ s : ST} (h : ∀ c, b ≤ c → s.1 c = σ.1 c) (h2 : s.2.1 (b + 6) = σ.2.1 (b + 6)) : SAM b x σ s := fun j _ => ⟨⟨fun k _ _ => by rw [h _ (by omega)], by rw [h2]⟩, by rw [h _ (by omega)], by rw [h _ (by omega)], by rw [h _ (by omega)]⟩
theorem SBM.eq {v : Nat} {τ t : ST} (h : ∀ c, 20 ≤ c → t.1 c = τ.1 c) (h2 : t.2.1 21 = τ.2.1 21 ∧ t.2.1 22 = τ.2.1 22) : SBM v τ t := fun j _ => ⟨⟨⟨by rw [h _ (by omega)], by rw [h _ (by omega)]⟩, fun k _ _ => by rw [h _ (by omega)], by rw [h2.1], by rw [h2.2]⟩, by rw [h _ (by omega)], by rw [h _ (by omega)], by rw [h _ (by omega)]⟩
theorem SAM.set {b x : Nat} {σ : ST} {c : Int32} {w : Int64} : SAM b x σ (stL (stI σ (b + 4) x c) (b + 6) x w) := by
  have e1 : ∀ d, d ≠ b + 4 → (stL (stI σ (b + 4) x c) (b + 6) x w).1 d = σ.1 d := fun d hd => stI_ne hd
  have e4 : ∀ i, i ≠ x → (stL (stI σ (b + 4) x c) (b + 6) x w).1 (b + 4) i = σ.1 (b + 4) i := fun i hi => by
    show (stI σ (b + 4) x c).1 (b + 4) i = _
    rw [stI_at, upN hi]
  have e6 : ∀ i, i ≠ x → (stL (stI σ (b + 4) x c) (b + 6) x w).2.1 (b + 6) i = σ.2.1 (b + 6) i := fun i hi => by
    rw [stLA, upLN hi]
    rfl
  refine fun i hi => ⟨⟨fun k k1 k5 => ?_, e6 i (by omega)⟩, by rw [e1 _ (by omega)], by rw [e1 _ (by omega)], by rw [e1 _ (by omega)]⟩
  by_cases e : k = 4
  · rw [e]
    exact e4 i (by omega)
  · rw [e1 _ (by omega)]
theorem SAM.trans {b x : Nat} {σ s u : ST} (h : SAM b x σ s) (k : SAM b x s u) : SAM b x σ u := fun j hj => by
  obtain ⟨a1, a2, a3, a4⟩ := h j hj
  obtain ⟨b1, b2, b3, b4⟩ := k j hj
  exact ⟨a1.trans b1, b2.trans a2, b3.trans a3, b4.trans a4⟩
theorem CA.sam {x : Nat} {σ a : ST} (h : CA σ a) : SAM 62 x σ a := SAM.eq (fun c hc => h.1 c (by omega)) (h.2.2.1 _ (by omega))
theorem GOF.sbm {t a b : ST} {F : Int} {v : Nat} (h : GOF t a b F) : SBM v t b := SBM.eq (fun c hc => h.1.1 c (by omega)) ⟨h.1.2.2 21 (by omega), h.1.2.2 22 (by omega)⟩
theorem KDS.sam {b x e v f : Nat} {σ τ s t : ST} {l : List EN} {Q R : EN → Prop} (h : KDS b σ τ (x, e) (v, f) l Q) (hA : SAM b x σ s) (hB : SBM v τ t) (a7 : s.1 (b + 7) x = σ.1 (b + 7) x) (a8 : s.1 (b + 8) x = σ.1 (b + 8) x) (b8 : t.1 28 v = τ.1 28 v) (b9 : t.1 29 v = τ.1 29 v) (b3 : t.1 23 v = τ.1 23 v) (hQ : ∀ y, y ∈ l → (inA y = true → x < y.2.1.1) → v < y.2.2.1 → y.2.2.1 < y.2.2.2 → Q y → R y) : KDS b s t (x, e) (v, f) l R := by
  obtain ⟨⟨⟨h1, h2⟩, h3, h4⟩, h5, ⟨h6, h7⟩, h8⟩ := h
  refine ⟨⟨⟨?_, ?_⟩, ?_, ?_⟩, h5, ⟨?_, h7⟩, fun y hy => ?_⟩
  · show CN (s.1 (b + 9)) (s.1 (b + 7) x) (rA l)
    rw [a7]
    refine h1.ext _ _ (fun r hr => ?_)
    obtain ⟨y, y1, y2, y3⟩ := mem_rA hr
    have k := ((h8 y y1).2.1.1 y2).1
    have k : x < y.2.1.1 := k
    exact (hA r (by omega)).2.2.2
  · show (s.1 (b + 8) x).toInt = _
    rw [a8]
    exact h2
  · show CN (t.1 30) (t.1 28 v) (rB l)
    rw [b8]
    refine h3.ext _ _ (fun r hr => ?_)
    obtain ⟨y, y1, y3⟩ := mem_rB hr
    have k : v < y.2.2.1 := (h8 y y1).1.1
    exact (hB r (by omega)).2.2.2
  · show (t.1 29 v).toInt = _
    rw [b9]
    exact h4
  · show (t.1 23 v).toInt = _
    rw [b3]
    exact h6
  · obtain ⟨k1, k2, k3⟩ := h8 y hy
    exact ⟨k1, k2, hQ y hy (fun hi => (k2.1 hi).1) k1.1 k1.2.1 k3⟩
/-- a child of rows x and v, read by its types -/
def CHD (p : Nat) (S T : ST) (n : Nat) (x v : Nat) (tI tJ : Int32) (σ τ : ST) (y : EN) : Prop := (inA y = true ∧ KID 62 σ τ x v y) ∧ VAL False 62 p S T σ τ n tI tJ y.2.1 y.2.2
theorem CHD.ext {p : Nat} {S T : ST} {n x v : Nat} {tI tJ : Int32} {σ τ s t : ST} {y : EN} (h : CHD p S T n x v tI tJ σ τ y) (hn : y.2.2.1 < y.2.2.2) (hA : AGA 62 σ s y.2.1.1 y.2.1.2) (hB : AGB τ t y.2.2.1 y.2.2.2) : CHD p S T n x v tI tJ s t y := by
  have := inA_lt h.1.1
  exact ⟨⟨h.1.1, h.1.2.ext (hA _ (by omega) (by omega)).1 (hB _ (by omega) (by omega)).1⟩, h.2.ext _ _ _ _ _ hA hB⟩
/-- while the items of a list are told -/
def ILI (p : Nat) (S T : ST) (L : Nat) (tI tJ : Int32) (x v : Nat) (a t : ST) (k : Nat) (F : Int) (σ τ : ST) (e f : Nat) (l : List EN) : Prop := (CXT S T σ τ e f F ∧ x < e ∧ v < f) ∧ (SUA 62 x a σ ∧ SUB v t τ) ∧ (l.map (fun y => y.1) = List.range k ∧ l.length = k ∧ k ≤ 200) ∧ KDS 62 σ τ (x, e) (v, f) l (CHD p S T (31 - L) x v tI tJ σ τ) ∧ (σ.1 (62 + 4) x = 0 ∧ σ.2.1 (62 + 6) x = 0) ∧ (τ.2.1 21 v = 0 ∧ τ.2.1 22 v = 0) ∧ (τ.1 20 v).toInt = 6
/-- a list's items told -/
def IPO (p : Nat) (S T : ST) (L : Nat) (tI tJ : Int32) (x v : Nat) (a t a' b' : ST) : Prop := ∃ (e f : Nat) (l : List EN), (CXT S T a' b' e f (1000 + L + 1) ∧ x < e ∧ v < f) ∧ (SUA 62 x a a' ∧ SUB v t b') ∧ (l.map (fun y => y.1) = List.range l.length ∧ l.length ≤ 200 ∧ (a'.1 (62 + 4) x).toInt = l.length) ∧ KDS 62 a' b' (x, e) (v, f) l (CHD p S T (31 - L) x v tI tJ a' b') ∧ a'.2.1 (62 + 6) x = 0 ∧ b'.2.1 21 v = 0 ∧ b'.2.1 22 v = 0
theorem ILI.rows {p : Nat} {S T : ST} {L : Nat} {tI tJ : Int32} {x v : Nat} {a t : ST} {k : Nat} {F : Int} {σ τ : ST} {e f : Nat} {l : List EN} (h : ILI p S T L tI tJ x v a t k F σ τ e f l) : (∀ r, r ∈ rA l → x < r) ∧ ∀ r, r ∈ rB l → v < r := by
  obtain ⟨_, _, _, hK, _⟩ := h
  refine ⟨fun r hr => ?_, fun r hr => ?_⟩
  · obtain ⟨y, y1, y2, y3⟩ := mem_rA hr
    have k : x < y.2.1.1 := ((hK.2.2.2 y y1).2.1.1 y2).1
    omega
  · obtain ⟨y, y1, y3⟩ := mem_rB hr
    have k : v < y.2.2.1 := (hK.2.2.2 y y1).1.1
    omega
theorem ILI.par {p : Nat} {S T : ST} {L : Nat} {tI tJ : Int32} {x v : Nat} {a t : ST} {k : Nat} {F : Int} {σ τ : ST} {e f : Nat} {l : List EN} (h : ILI p S T L tI tJ x v a t k F σ τ e f l) {row w pl : Int32} (hr : row.toInt = x) (hw : w.toInt = v) (hp : pl.toInt = k) : PAR σ τ e f row w pl l [] := by
  obtain ⟨⟨_, h1, h2⟩, _, ⟨h3, _, h4⟩, hK, _, _, h5⟩ := h
  refine .inr ⟨x, v, _, ⟨⟨hr, h1⟩, hw, h2⟩, by rw [List.append_nil]; exact hK, fun y hy => ?_, fun y hy => ?_, fun y hy => (by cases hy), ⟨by omega, by omega⟩, .inr h5⟩
  · rw [List.append_nil] at hy
    obtain ⟨_, _, ⟨_, hk⟩, _⟩ := hK.2.2.2 y hy
    exact ⟨fun _ => hk.1.2, hk.2.1.2⟩
  · have : y.1 ∈ l.map (fun y => y.1) := List.mem_map.mpr ⟨y, hy, rfl⟩
    rw [h3] at this
    have := List.mem_range.mp this
    omega
/-- one item more -/
theorem ILI.add {p : Nat} {S T : ST} {L : Nat} {tI tJ : Int32} {x v : Nat} {a t : ST} {k : Nat} {F : Int} {σ τ s u : ST} {e f : Nat} {l : List EN} (h : ILI p S T L tI tJ x v a t k F σ τ e f l) {row w pl : Int32} (hr : row.toInt = x) (hw : w.toInt = v) (hp : pl.toInt = k) (hL : L ≤ 30) (hV : VPOST p S T (L + 1) tI tJ e f row w pl l [] σ τ s u) : ∃ e' f', ILI p S T L tI tJ x v a t (k + 1) (1000 + (L + 1 : Nat) + 1) s u e' f' (l ++ [(k, (e, e'), (f, f'))]) := by
  have hrow := h.rows
  obtain ⟨⟨_, h1, h2⟩, ⟨hs1, hs2⟩, ⟨h3, h3b, h4⟩, hK, ⟨h5, h5b⟩, ⟨h6, h6b⟩, h7⟩ := h
  obtain ⟨e', f', hC, ⟨g1, g2, hk⟩, hVal, ⟨⟨g3, g4⟩, ⟨g5, g6⟩, g7⟩, hXA, hXB⟩ := hV
  rw [hr] at hXA
  rw [hw] at hXB
  have hsu : SUA 62 x σ s := hXA.su h1 (fun r hr => hrow.1 r hr)
  have hsb : SUB v τ u := hXB.su h2 (fun r hr => hrow.2 r hr)
  refine ⟨e', f', ⟨hC, by omega, by omega⟩, ⟨hs1.trans hsu, hs2.trans hsb⟩, ⟨?_, ?_, by omega⟩, ?_, ⟨?_, ?_⟩, ⟨?_, ?_⟩, ?_⟩
  · rw [List.map_append, h3, List.range_succ]
    rfl
  · rw [List.length_append, h3b]
    rfl
  · refine KDS.add (l := l) (m := []) (Q := CHD p S T (31 - L) x v tI tJ σ τ) (by rw [List.append_nil]; exact hK) hXA hXB h1 h2 g1 g2 (by rw [List.append_nil]; omega) (fun y hy => ?_) (fun y hy => (by cases hy)) (fun y hy hy1 hyA hyB hQ => ?_) ?_
    · have : y.1 ∈ l.map (fun y => y.1) := List.mem_map.mpr ⟨y, hy, rfl⟩
      rw [h3] at this
      exact List.mem_range.mp this
    · exact hQ.ext hy1.2 (hyA hQ.1.1) hyB
    · refine ⟨⟨decide_eq_true g1, ⟨⟨?_, ?_⟩, ⟨?_, ?_⟩, g7⟩⟩, ?_⟩
      · show (s.1 (62 + 2) e).toInt = x
        rw [g3]
        exact hr
      · show (s.1 (62 + 3) e).toInt = k
        rw [g4]
        exact hp
      · show (u.1 24 f).toInt = v
        rw [g5]
        exact hw
      · show (u.1 25 f).toInt = k
        rw [g6]
        exact hp
      · have e9 : 32 - (L + 1) = 31 - L := by omega
        rw [e9] at hVal
        exact hVal
  · rw [(hXA.1 x h1).1 4 (by omega) (by omega)]
    exact h5
  · rw [(hXA.1 x h1).2]
    exact h5b
  · rw [(hXB.1.1 v h2).2.2.1]
    exact h6
  · rw [(hXB.1.1 v h2).2.2.2]
    exact h6b
  · rw [(hXB.1.1 v h2).1]
    exact h7
/-- as the next token is read -/
theorem ILI.go {p : Nat} {S T : ST} {L : Nat} {tI tJ : Int32} {x v : Nat} {a t : ST} {k : Nat} {F : Int} {σ τ s u : ST} {e f : Nat} {l : List EN} (h : ILI p S T L tI tJ x v a t k F σ τ e f l) (ca : CA σ s) (hb : GOF τ s u ((uT τ : Int) - 1)) : ILI p S T L tI tJ x v a t k (F - 1) s u e f l := by
  obtain ⟨⟨hC, h1, h2⟩, ⟨hs1, hs2⟩, h3, hK, ⟨h5, h5b⟩, ⟨h6, h6b⟩, h7⟩ := h
  refine ⟨⟨hC.go ca hb, h1, h2⟩, ⟨hs1.trans ca.sua, hs2.trans hb.sub⟩, h3, ?_, ⟨?_, ?_⟩, ⟨?_, ?_⟩, ?_⟩
  · refine hK.sam ca.sam hb.sbm (by rw [ca.1 _ (by omega)]) (by rw [ca.1 _ (by omega)]) (by rw [hb.1.1 _ (by omega)]) (by rw [hb.1.1 _ (by omega)]) (by rw [hb.1.1 _ (by omega)]) (fun y _ hx hv hn hQ => hQ.ext hn (ca.sam.ag (hx hQ.1.1)) (hb.sbm.ag hv))
  · rw [ca.1 _ (by omega)]
    exact h5
  · rw [ca.2.2.1 _ (by omega)]
    exact h5b
  · rw [hb.1.2.2 _ (by omega)]
    exact h6
  · rw [hb.1.2.2 _ (by omega)]
    exact h6b
  · rw [hb.1.1 _ (by omega)]
    exact h7
theorem LX.set4 {b x : Nat} {σ τ : ST} {c : Int32} {w : Int64} (h : LX σ τ) (hb : 4 < b) : LX (stL (stI σ (b + 4) x c) (b + 6) x w) τ := by
  have e1 : ∀ d, d ≠ b + 4 → (stL (stI σ (b + 4) x c) (b + 6) x w).1 d = σ.1 d := fun d hd => stI_ne hd
  have e2 : ∀ d, d ≠ b + 6 → (stL (stI σ (b + 4) x c) (b + 6) x w).2.1 d = σ.2.1 d := fun d hd => stL_ne hd
  exact h.ext (e1 1 (by omega)) (e1 2 (by omega)) (e2 3 (by omega)) (e2 2 (by omega)) rfl (fun _ _ => rfl) rfl
/-- the list ends -/
theorem ILI.fin {p : Nat} {S T : ST} {L : Nat} {tI tJ : Int32} {x v : Nat} {a t : ST} {k : Nat} {σ τ s u : ST} {e f : Nat} {l : List EN} (h : ILI p S T L tI tJ x v a t k (1000 + (L + 1 : Nat) + 1) σ τ e f l) {c : Int32} (hc : c.toInt = k) (ca : CA (stL (stI σ (62 + 4) x c) (62 + 6) x 0) s) (hb : GOF τ s u ((uT τ : Int) - 1)) : IPO p S T L tI tJ x v a t s u := by
  obtain ⟨⟨⟨⟨hC1, hC2⟩, _, ⟨hC3, hC4⟩, hC5, hC6⟩, h1, h2⟩, ⟨hs1, hs2⟩, ⟨h3, h3b, h4⟩, hK, ⟨h5, h5b⟩, ⟨h6, h6b⟩, h7⟩ := h
  have e1 : ∀ d, d ≠ 62 + 4 → (stL (stI σ (62 + 4) x c) (62 + 6) x 0).1 d = σ.1 d := fun d hd => stI_ne hd
  have e2 : ∀ d, d ≠ 62 + 6 → (stL (stI σ (62 + 4) x c) (62 + 6) x 0).2.1 d = σ.2.1 d := fun d hd => stL_ne hd
  have e4 : (stL (stI σ (62 + 4) x c) (62 + 6) x 0).1 (62 + 4) x = c := by
    show (stI σ (62 + 4) x c).1 (62 + 4) x = _
    rw [stI_at, upA rfl]
  have e6 : (stL (stI σ (62 + 4) x c) (62 + 6) x 0).2.1 (62 + 6) x = 0 := by rw [stLA, upLA rfl]
  have sE : (stL (stI σ (62 + 4) x c) (62 + 6) x 0).2.2 = σ.2.2 := rfl
  have sS : SUA 62 x σ (stL (stI σ (62 + 4) x c) (62 + 6) x 0) := SUA.set
  have sM : SAM 62 x σ (stL (stI σ (62 + 4) x c) (62 + 6) x 0) := SAM.set
  generalize stL (stI σ (62 + 4) x c) (62 + 6) x 0 = σ2 at ca e1 e2 e4 e6 sE sS sM
  have kA : KVA σ σ2 := ⟨fun d d2 d6 => e1 d (by omega), ⟨by rw [e1 2 (by omega)], fun i _ => by rw [e1 62 (by omega)]⟩, fun d d2 d6 => e2 d (by omega), sE⟩
  have hu := hb.2.2.2
  have sMA := sM.trans ca.sam
  have c7 : ∀ d, d ≠ 62 + 4 → 62 ≤ d → s.1 d = σ.1 d := fun d hd h62 => (ca.1 d (by omega)).trans (e1 d hd)
  refine ⟨e, f, l, ⟨⟨⟨hC1.trans (kA.trans ca.kva), hC2.trans hb.2.1⟩, hb.2.2.1, ⟨?_, ?_⟩, ?_, ?_⟩, h1, h2⟩, ⟨hs1.trans (sS.trans ca.sua), hs2.trans hb.sub⟩, ⟨by rw [h3b]; exact h3, by omega, ?_⟩, ?_, ?_, ?_, ?_⟩
  · rw [c7 62 (by omega) (by omega)]
    exact hC3
  · rw [c7 62 (by omega) (by omega)]
    exact hC4
  · rw [hb.1.2.1]
    exact hC5
  · omega
  · rw [ca.1 _ (by omega), e4, hc, h3b]
  · exact hK.sam sMA hb.sbm (by rw [c7 _ (by omega) (by omega)]) (by rw [c7 _ (by omega) (by omega)]) (by rw [hb.1.1 _ (by omega)]) (by rw [hb.1.1 _ (by omega)]) (by rw [hb.1.1 _ (by omega)]) (fun y _ hx hv hn hQ => hQ.ext hn (sMA.ag (hx hQ.1.1)) (hb.sbm.ag hv))
  · rw [ca.2.2.1 _ (by omega)]
    exact e6
  · rw [hb.1.2.2 _ (by omega)]
    exact h6
  · rw [hb.1.2.2 _ (by omega)]
    exact h6b
/-- a value of both sides, at level L -/
def VTP (p : Nat) (rm : Int) (S T : ST) (rV : Int32 → Int32 → Int32 → Int32 → ST → Option (Int32 × ST)) (rv : Int32 → Int32 → Int32 → Int32 → Int32 → ST → Option ((Int32 × ST) × Nat)) : Prop := ∀ (L : Nat) (lev dp tA tB pa pb pl P32 : Int32) (d : Nat) (l m : List EN) (σ τ : ST) (x v : Nat), L ≤ 31 → lev.toInt = L → dp.toInt = L → P32.toInt = p → TG p rm S T d tA tB → CXT S T σ τ x v (1000 + L) → PAR σ τ x v pa pb pl l m → QT (rV tA pa pl lev σ) (fun qa => QT (rv P32 tB dp pb pl τ) (fun qb => VOUT L (VPOST p S T L tA tB x v pa pb pl l m σ τ) qa qb.1))
theorem q_items0 {ri rp : Int32 → Int32 → Int32 → Int32 → ST → Option ((Int32 × ST) × Nat)} {rv : Int32 → Int32 → Int32 → Int32 → Int32 → ST → Option ((Int32 × ST) × Nat)} (n : Nat) (x1 x2 x3 x4 x5 : Int32) (b : ST) (h : ¬ (b.1 0 13).toInt = 93) : QT (f_X11_items_70 ri rp rv (f_X11_items_25 ri rp rv n) x1 x2 x3 x4 x5 0 b) (fun q => q.1.1 = 0) := by
  have l93 : (93 : Int32).toInt = 93 := by decide
  unfold f_X11_items_70
  refine QT.ite (fun _ => ?_) (fun h => absurd rfl h)
  cases n with
  | zero =>
    rw [f_X11_items_25]
    exact QT.none
  | succ n =>
    rw [f_X11_items_25]
    refine QT.ite (fun _ => ?_) (fun h => absurd rfl h)
    unfold f_X11_mark
    refine QT.bnd (Q := fun q => q.1 = 0) ?_ (fun q hq => QT.grd (fun _ => QT.ret hq))
    refine QT.ieq (fun e => absurd (e.trans l93) h) (fun _ => ?_)
    exact QT.bnd (q_wrong 1 b) (fun _ hq => QT.grd (fun _ => QT.ret hq))
theorem q_items1 {ri rp : Int32 → Int32 → Int32 → Int32 → ST → Option ((Int32 × ST) × Nat)} {rv : Int32 → Int32 → Int32 → Int32 → Int32 → ST → Option ((Int32 × ST) × Nat)} (n : Nat) (x1 x2 x3 x4 x5 : Int32) (b : ST) (h : (b.1 0 13).toInt = 93) {Q : ST → Prop} (hg : QT (f_X11_go b) Q) : QT (f_X11_items_70 ri rp rv (f_X11_items_25 ri rp rv n) x1 x2 x3 x4 x5 0 b) (fun q => q.1.1 = 1 ∧ Q q.1.2) := by
  have l93 : (93 : Int32).toInt = 93 := by decide
  unfold f_X11_items_70
  refine QT.ite (fun _ => ?_) (fun h => absurd rfl h)
  cases n with
  | zero =>
    rw [f_X11_items_25]
    exact QT.none
  | succ n =>
    rw [f_X11_items_25]
    refine QT.ite (fun _ => ?_) (fun h => absurd rfl h)
    unfold f_X11_mark
    refine QT.bnd (Q := fun q => q.1 = 1 ∧ Q q.2) ?_ (fun q hq => QT.grd (fun _ => QT.ret hq))
    refine QT.ieq (fun _ => QT.bnd hg (fun z hz => QT.ret ⟨rfl, hz⟩)) (fun e => absurd (h.trans l93.symm) e)
theorem ab_items24 {rF rI : Int32 → Int32 → Int32 → ST → Option (Int32 × ST)} {rV : Int32 → Int32 → Int32 → Int32 → ST → Option (Int32 × ST)} {ri rp : Int32 → Int32 → Int32 → Int32 → ST → Option ((Int32 × ST) × Nat)} {rv : Int32 → Int32 → Int32 → Int32 → Int32 → ST → Option ((Int32 × ST) × Nat)} {p : Nat} {rm : Int} {S T : ST} (hV : VTP p rm S T rV rv) (hN : NUV rv) {L d x v : Nat} {lev dp tI u row w P32 : Int32} {a t : ST} (hL : L ≤ 30) (hlev : lev.toInt = L) (hdp : dp.toInt = L) (hP : P32.toInt = p) (hT : TY p rm S T d tI (T.1 3 u.toNatClampNeg)) (hr : row.toInt = x) (hw : w.toInt = v) : ∀ (n n' k : Nat) (x4 x5 : Int32) (σ τ : ST) (e f : Nat) (l : List EN), x4.toInt = k → x5.toInt = k → ILI p S T L tI (T.1 3 u.toNatClampNeg) x v a t k (1000 + (L + 1 : Nat)) σ τ e f l → QT (f_X8_parseItems_24 rF rI rV n tI row lev x4 σ) (fun qa => QT (f_X11_items_25 ri rp rv n' P32 u dp w x5 1 τ) (fun qb => VOUT L (IPO p S T L tI (T.1 3 u.toNatClampNeg) x v a t) qa qb.1)) := by
  have l0 := li_0
  have l1 := li_1
  have l44 : (44 : Int32).toInt = 44 := by decide
  have l93 : (93 : Int32).toInt = 93 := by decide
  have l200 : (200 : Int32).toInt = 200 := by decide
  intro n
  induction n with
  | zero =>
    intro n' k x4 x5 σ τ e f l _ _ _
    rw [f_X8_parseItems_24]
    exact QT.none
  | succ n ih =>
    intro n' k x4 x5 σ τ e f l h4 h5 hI
    have hpl : x4 = x5 := Int32.toInt_inj.mp (by omega)
    subst hpl
    cases n' with
    | zero =>
      rw [f_X11_items_25]
      exact fun _ _ => QT.none
    | succ n' =>
      have hk := hI.2.2.1.2.2
      have hC := hI.1.1
      obtain ⟨⟨_, k3, _, _⟩, _⟩ := hC.1.2.t
      rw [f_X8_parseItems_24, f_X11_items_25]
      refine QT.ilt (fun h => by omega) (fun _ => ?_)
      refine QT.sw ?_
      refine QT.ite (fun e => absurd e one_ne) (fun _ => QT.grd (fun _ => ?_))
      refine QT.sw ?_
      rw [k3]
      obtain ⟨d', hG⟩ := TG.ex hT
      have el := il_addE (x := lev) (y := 1) (by omega) (by omega)
      have ed := il_addE (x := dp) (y := 1) (by omega) (by omega)
      have e4 := il_addE (x := x4) (y := 1) (by omega) (by omega)
      refine QT.bnd2 (hV (L + 1) (lev + 1) (dp + 1) tI (T.1 3 u.toNatClampNeg) row w x4 P32 d' l [] σ τ e f (by omega) (by omega) (by omega) hP hG hC (hI.par hr hw h4)) (fun qa qb hq => ?_)
      rcases hq with ⟨ha, hb⟩ | ⟨ha, hb, hPo⟩
      · refine QT.ieq (fun _ => QT.ret ?_) (fun h => absurd (ha.trans l0.symm) h)
        refine QT.kac ?_
        refine QT.ite (fun _ => QT.ret (.inl ⟨l0, .inl rfl⟩)) (fun hne => ?_)
        rcases hb with hb | ⟨_, hb⟩
        · exact absurd hb hne
        · exact (dm_items hN L n' P32 u dp w (x4 + 1) qb.1.2 (hb.of (by omega))).mono (fun z hz => .inl ⟨l0, hz⟩)
      · obtain ⟨e', f', hI2⟩ := hI.add hr hw h4 hL hPo
        have hX2 := hI2.1.1.2.1.1
        have hK2 := hX2.2.2.1
        refine QT.ieq (fun h => by omega) (fun _ => ?_)
        refine QT.sw ?_
        refine QT.kac ?_
        refine QT.ieq (fun h => by omega) (fun _ => ?_)
        refine QT.sw ?_
        refine QT.ieq (fun h93 => ?_) (fun h93 => ?_)
        · have hs : (qb.1.2.1 0 13).toInt = 93 := (hK2.sg (by omega)).mpr (by omega)
          refine QT.bnd (a_setW 62 row (x4 + 1) 0 qa.2 hr (by rw [hI2.1.1.2.2.1.1]; have := hI2.1.2.1; omega) (by rw [hI2.1.1.2.2.1.2]; have := hI2.1.1.2.2.2.2.2; have := hI2.1.2.1; omega)) (fun s2 hs2 => ?_)
          have e2 : s2.1 2 = qa.2.1 2 := by
            rw [hs2]
            show (stI qa.2 (62 + 4) x (x4 + 1)).1 2 = _
            exact stI_ne (by omega)
          have hX3 : LX s2 qb.1.2 := by
            rw [hs2]
            exact hX2.set4 (by omega)
          refine QT.bnd (ab_gof s2 qb.1.2 hX3 (by rw [e2]; omega) (by rw [e2]; omega)) (fun s hs9 => ?_)
          refine QT.ret ?_
          refine QT.ieq (fun h => by omega) (fun _ => ?_)
          refine (q_items1 n' P32 u dp w (x4 + 1) qb.1.2 hs hs9.2).mono (fun z hz => .inr ⟨l1, by show z.1.1.toInt = 1; rw [hz.1]; exact l1, ?_⟩)
          have hs1 := hs9.1
          rw [hs2] at hs1
          exact hI2.fin (by omega) hs1 hz.2
        · refine QT.ieq (fun h44 => ?_) (fun h44 => ?_)
          · have hs : (qb.1.2.1 0 13).toInt = 44 := (hK2.sg (by omega)).mpr (by omega)
            refine QT.sw ?_
            refine QT.ieq (fun _ => ?_) (fun h => by omega)
            unfold f_X11_items_70
            refine QT.ite (fun h => absurd h one_ne) (fun _ => ?_)
            refine QT.sw ?_
            refine QT.bnd2 (Q := fun s z => CA qa.2 s ∧ GOF qb.1.2 s z ((uT qb.1.2 : Int) - 1)) ((ab_gof qa.2 qb.1.2 hX2 (by omega) (by omega)).mono (fun s hs => hs.2.mono (fun z hz => ⟨hs.1, hz⟩))) (fun s z hq => ?_)
            have hI3 := hI2.go hq.1 hq.2
            rw [show (1000 + ((L + 1 : Nat) : Int) + 1 - 1) = 1000 + ((L + 1 : Nat) : Int) by omega] at hI3
            exact ih n' (k + 1) (x4 + 1) (x4 + 1) s z e' f' _ (by omega) (by omega) hI3
          · have hs1 : ¬ (qb.1.2.1 0 13).toInt = 44 := fun e => h44 (((hK2.sg (by omega)).mp e).trans l44.symm)
            have hs2 : ¬ (qb.1.2.1 0 13).toInt = 93 := fun e => h93 (((hK2.sg (by omega)).mp e).trans l93.symm)
            refine (qa_ref 1 qa.2).mono (fun z hz => ?_)
            refine QT.ieq (fun h => by omega) (fun _ => ?_)
            exact (q_items0 n' P32 u dp w (x4 + 1) qb.1.2 hs2).mono (fun y hy => .inl ⟨hz, .inl hy⟩)
/-- a list's items of both sides -/
def NEWA (x : Nat) (a : ST) : Prop := ((a.1 (62 + 7) x).toInt = -1 ∧ (a.1 (62 + 8) x).toInt = -1) ∧ a.1 (62 + 4) x = 0 ∧ a.2.1 (62 + 6) x = 0
def NEWB (v : Nat) (s : Int) (t : ST) : Prop := ((t.1 28 v).toInt = -1 ∧ (t.1 29 v).toInt = -1) ∧ (t.1 23 v = 0 ∧ (t.1 20 v).toInt = s) ∧ t.2.1 21 v = 0 ∧ t.2.1 22 v = 0
theorem kds_0 {x v : Nat} {s : Int} {σ τ : ST} {Q : EN → Prop} (hA : NEWA x σ) (hB : NEWB v s τ) : KDS 62 σ τ (x, x + 1) (v, v + 1) [] Q := by
  have l0 := li_0
  refine ⟨⟨⟨hA.1.1, hA.1.2⟩, hB.1.1, hB.1.2⟩, ⟨List.Pairwise.nil, List.Pairwise.nil⟩, ⟨?_, ?_⟩, fun y hy => (by cases hy)⟩
  · show (τ.1 23 v).toInt = ((0 : Nat) : Int)
    rw [hB.2.1.1]
    exact l0
  · refine ⟨?_, rfl⟩
    show 0 + x < x + 1
    omega
def ITP (p : Nat) (rm : Int) (S T : ST) (rI : Int32 → Int32 → Int32 → ST → Option (Int32 × ST)) (ri : Int32 → Int32 → Int32 → Int32 → ST → Option ((Int32 × ST) × Nat)) : Prop := ∀ (L d x v : Nat) (lev dp tI u row w P32 : Int32) (a t : ST), L ≤ 30 → lev.toInt = L → dp.toInt = L → P32.toInt = p → TY p rm S T d tI (T.1 3 u.toNatClampNeg) → row.toInt = x → w.toInt = v → KVA S a → KVB T t → ((a.1 62 1).toInt = (x : Int) + 1 ∧ (a.1 62 0).toInt = 502 ∧ x < 502) → (t.1 0 46).toInt = (v : Int) + 1 → NEWA x a → NEWB v 6 t → QT (f_X11_go t) (fun b => GOF t a b (1000 + (L + 1 : Nat) - 2 * ((x : Int) + 1))) → QT (rI tI row lev a) (fun qa => QT (ri P32 u dp w t) (fun qb => VOUT L (IPO p S T L tI (T.1 3 u.toNatClampNeg) x v a t) qa qb.1))
theorem ab_items {rF rI : Int32 → Int32 → Int32 → ST → Option (Int32 × ST)} {rV : Int32 → Int32 → Int32 → Int32 → ST → Option (Int32 × ST)} {ri rp : Int32 → Int32 → Int32 → Int32 → ST → Option ((Int32 × ST) × Nat)} {rv : Int32 → Int32 → Int32 → Int32 → Int32 → ST → Option ((Int32 × ST) × Nat)} {p : Nat} {rm : Int} {S T : ST} (hV : VTP p rm S T rV rv) (hN : NUV rv) : ITP p rm S T (f_X8_parseItems rF rI rV) (f_X11_items ri rp rv) := by
  have l0 := li_0
  have l1 := li_1
  have l93 : (93 : Int32).toInt = 93 := by decide
  intro L d x v lev dp tI u row w P32 a t hL hlev hdp hP hT hr hw kA kB ⟨a1, a0, hx⟩ ht hNA hNB hgo
  unfold f_X8_parseItems f_X11_items
  refine QT.sw ?_
  refine QT.bnd hgo (fun b hb => ?_)
  have kb := hb.2.1
  have hX := hb.2.2.1
  have hu := hb.2.2.2
  have hK := hX.1.2.2.1
  have b46 : (b.1 0 46).toInt = (v : Int) + 1 := by rw [hb.1.2.1]; exact ht
  have hNB2 : NEWB v 6 b := by
    unfold NEWB
    rw [hb.1.1 28 (by omega), hb.1.1 29 (by omega), hb.1.1 23 (by omega), hb.1.1 20 (by omega), hb.1.2.2 21 (by omega), hb.1.2.2 22 (by omega)]
    exact hNB
  have hC : CXT S T a b (x + 1) (v + 1) (1000 + (L + 1 : Nat)) := ⟨⟨kA, kB.trans kb⟩, hX, ⟨by omega, a0⟩, by omega, by omega⟩
  refine QT.ieq (fun hs => ?_) (fun hs => ?_)
  · have hk : (a.1 2 4).toInt = 93 := (hK.sg (by omega)).mp (by omega)
    refine QT.sw ?_
    refine QT.ieq (fun _ => ?_) (fun h => by omega)
    refine QT.bnd (ab_gof a b hX.1 (by omega) (by omega)) (fun s hs9 => QT.ret ?_)
    refine QT.bnd hs9.2 (fun z hz => QT.ret (.inr ⟨l1, l1, ?_⟩))
    have hC2 := hC.go hs9.1 hz
    have ca := hs9.1
    refine ⟨x + 1, v + 1, [], ⟨?_, by omega, by omega⟩, ⟨ca.sua, (SUB.trans hb.sub hz.sub)⟩, ⟨rfl, by show 0 ≤ 200; omega, ?_⟩, ?_, ?_, ?_, ?_⟩
    · have e9 : (1000 + ((L + 1 : Nat) : Int) - 1) = 1000 + (L : Int) := by omega
      rw [e9] at hC2
      obtain ⟨c1, c2, c3, c4, c5, c6⟩ := hC2
      exact ⟨c1, c2, c3, c4, by dsimp only; omega, c6⟩
    · rw [ca.1 _ (by omega), hNA.2.1]
      exact l0
    · refine kds_0 (s := 6) ?_ ?_
      · unfold NEWA
        rw [ca.1 _ (by omega), ca.1 _ (by omega), ca.1 _ (by omega), ca.2.2.1 _ (by omega)]
        exact hNA
      · unfold NEWB
        rw [hz.1.1 28 (by omega), hz.1.1 29 (by omega), hz.1.1 23 (by omega), hz.1.1 20 (by omega), hz.1.2.2 21 (by omega), hz.1.2.2 22 (by omega)]
        exact hNB2
    · rw [ca.2.2.1 _ (by omega)]
      exact hNA.2.2
    · rw [hz.1.2.2 21 (by omega)]
      exact hNB2.2.2.1
    · rw [hz.1.2.2 22 (by omega)]
      exact hNB2.2.2.2
  · refine QT.sw ?_
    refine QT.ieq (fun h => absurd (((hK.sg (by omega)).mpr (h.trans l93)).trans l93.symm) hs) (fun _ => ?_)
    exact ab_items24 hV hN hL hlev hdp hP hT hr hw FU FU 0 0 0 a b (x + 1) (v + 1) [] l0 l0 ⟨⟨hC, by omega, by omega⟩, ⟨SUA.rf, hb.sub⟩, ⟨rfl, rfl, by omega⟩, kds_0 hNA hNB2, ⟨hNA.2.1, hNA.2.2⟩, ⟨hNB2.2.2.1, hNB2.2.2.2⟩, hNB2.2.1.2⟩
