/-! a field of a record that the reader wants, both sides -/
/-- while the fields of a record are read: those of Pl are there -/
def RLR (t q : Nat) (S T : ST) (L R x : Nat) (n : Int32) (a t1 : ST) (Pl : Nat → Prop) (σ τ : ST) (e : Nat) (l : List EN) : Prop := x < e ∧ (SUA t x a σ ∧ SUB x t1 τ) ∧ (∀ j, (∃ y, y ∈ l ∧ y.1 = j) ↔ Pl j) ∧ KDS t σ τ (x, e) (x, e) l (fun y => CHG True t q S T (31 - L) x x (S.1 13 (8 * R + y.1)) (T.1 15 (8 * R + y.1)) σ τ y) ∧ (σ.1 (t + 4) x = n ∧ σ.2.1 (t + 6) x = 0) ∧ (τ.2.1 21 x = 0 ∧ τ.2.1 22 x = 0) ∧ (τ.1 20 x).toInt = 7
theorem RLR.iff {t q : Nat} {S T : ST} {L R x : Nat} {n : Int32} {a t1 : ST} {P Q : Nat → Prop} {σ τ : ST} {e : Nat} {l : List EN} (h : RLR t q S T L R x n a t1 P σ τ e l) (k : ∀ j, P j ↔ Q j) : RLR t q S T L R x n a t1 Q σ τ e l := ⟨h.1, h.2.1, fun j => (h.2.2.1 j).trans (k j), h.2.2.2⟩
theorem RLR.tre {t q : Nat} {S T : ST} {L R x : Nat} {n : Int32} {a t1 : ST} {P : Nat → Prop} {σ τ s w : ST} {e : Nat} {l : List EN} (h : RLR t q S T L R x n a t1 P σ τ e l) (hT : TRE t σ s τ w) : RLR t q S T L R x n a t1 P s w e l := by
  obtain ⟨h1, ⟨hs1, hs2⟩, h3, hK, ⟨h5, h5b⟩, ⟨h6, h6b⟩, h7⟩ := h
  refine ⟨h1, ⟨hs1.trans (hT.sua x), hs2.trans (hT.sub x)⟩, h3, ?_, ⟨?_, ?_⟩, ⟨?_, ?_⟩, ?_⟩
  · refine hK.sam (hT.sam x) (hT.sbm x) (by rw [hT.1 (t + 7) (by omega) (by omega)]) (by rw [hT.1 (t + 8) (by omega) (by omega)]) (by rw [hT.2.2.1 28 (by omega) (by omega)]) (by rw [hT.2.2.1 29 (by omega) (by omega)]) (by rw [hT.2.2.1 23 (by omega) (by omega)]) (fun y _ hx hv hn hQ => CHG.ext hQ hn ((hT.sam x).ag (hx hQ.1.1)) ((hT.sbm x).ag hv))
  · rw [hT.1 (t + 4) (by omega) (by omega)]
    exact h5
  · rw [hT.2.1]
    exact h5b
  · rw [hT.2.2.2.1]
    exact h6
  · rw [hT.2.2.2.2]
    exact h6b
  · rw [hT.2.2.1 20 (by omega) (by omega)]
    exact h7
theorem RLR.rows {t q : Nat} {S T : ST} {L R x : Nat} {n : Int32} {a t1 : ST} {P : Nat → Prop} {σ τ : ST} {e : Nat} {l : List EN} (h : RLR t q S T L R x n a t1 P σ τ e l) : (∀ r, r ∈ rA l → x < r) ∧ ∀ r, r ∈ rB l → x < r := by
  obtain ⟨_, _, _, hK, _⟩ := h
  refine ⟨fun r hr => ?_, fun r hr => ?_⟩
  · obtain ⟨y, y1, y2, y3⟩ := mem_rA hr
    have k : x < y.2.1.1 := ((hK.2.2.2 y y1).2.1.1 y2).1
    omega
  · obtain ⟨y, y1, y3⟩ := mem_rB hr
    have k : x < y.2.2.1 := (hK.2.2.2 y y1).1.1
    omega
/-- where a field more comes -/
theorem RLR.split {t q : Nat} {S T : ST} {L R x : Nat} {n : Int32} {a t1 : ST} {P : Nat → Prop} {σ τ : ST} {e : Nat} {l : List EN} (h : RLR t q S T L R x n a t1 P σ τ e l) {j : Nat} (hj : ¬ P j) (hj8 : j < 8) {row pl : Int32} (hr : row.toInt = x) (hp : pl.toInt = j) : ∃ l1 l2, l = l1 ++ l2 ∧ (∀ y, y ∈ l1 → y.1 < j) ∧ (∀ y, y ∈ l2 → j < y.1) ∧ PARG t σ τ e e row row pl l1 l2 := by
  obtain ⟨h1, _, h3, hK, _⟩ := h
  obtain ⟨l1, l2, el, g1, g2⟩ := spt_list l hK.2.1.2 j (fun y hy e9 => hj ((h3 j).mp ⟨y, hy, e9⟩))
  refine ⟨l1, l2, el, g1, g2, .inr ⟨x, x, _, ⟨⟨hr, h1⟩, hr, h1⟩, by rw [← el]; exact hK, fun y hy => ?_, fun y hy => ?_, fun y hy => ?_, ⟨by omega, by omega⟩, .inl (by omega)⟩⟩
  · rw [← el] at hy
    obtain ⟨_, _, ⟨_, hk⟩, _⟩ := hK.2.2.2 y hy
    exact ⟨fun _ => hk.1.2, hk.2.1.2⟩
  · have := g1 y hy
    omega
  · have := g2 y hy
    omega
/-- one field more -/
theorem RLR.add {b t m q : Nat} {S T : ST} {L R x : Nat} {n : Int32} {a t1 : ST} {P : Nat → Prop} {σ τ s u : ST} {e : Nat} {l1 l2 : List EN} (h : RLR t q S T L R x n a t1 P σ τ e (l1 ++ l2)) {j : Nat} (h1' : ∀ y, y ∈ l1 → y.1 < j) (h2' : ∀ y, y ∈ l2 → j < y.1) {row pl : Int32} (hr : row.toInt = x) (hp : pl.toInt = j) (hL : L ≤ 30) (hlen : (l1 ++ l2).length < 1000000) (hV : RVP b t m q (L + 1) S T (S.1 13 (8 * R + j)) (T.1 15 (8 * R + j)) e row pl l1 l2 σ τ s u) : ∃ e', RCX b t m S T s u e' ∧ RLR t q S T L R x n a t1 (fun i => P i ∨ i = j) s u e' (l1 ++ (j, (e, e'), (e, e')) :: l2) ∧ SRK b (L + 1) σ s := by
  have hrow := h.rows
  obtain ⟨h1, ⟨hs1, hs2⟩, h3, hK, ⟨h5, h5b⟩, ⟨h6, h6b⟩, h7⟩ := h
  obtain ⟨e', hC, g1, hVal, ⟨⟨g3, g4⟩, ⟨g5, g6⟩, g7⟩, ⟨hXA, hXB⟩, hS⟩ := hV
  rw [hr] at hXA hXB
  have hsu : SUA t x σ s := hXA.su h1 (fun r hr => hrow.1 r (by rw [rA_app]; exact List.mem_append_left _ hr))
  have hsb : SUB x τ u := hXB.su h1 (fun r hr => hrow.2 r (by rw [rB_app]; exact List.mem_append_left _ hr))
  refine ⟨e', hC, ⟨by omega, ⟨hs1.trans hsu, hs2.trans hsb⟩, fun i => ?_, ?_, ⟨?_, ?_⟩, ⟨?_, ?_⟩, ?_⟩, hS⟩
  · show (∃ y, y ∈ l1 ++ (j, (e, e'), (e, e')) :: l2 ∧ y.1 = i) ↔ (P i ∨ i = j)
    rw [← h3 i]
    constructor
    · rintro ⟨y, hy, k⟩
      rcases List.mem_append.mp hy with hy | hy
      · exact .inl ⟨y, List.mem_append_left _ hy, k⟩
      · rcases List.mem_cons.mp hy with hy | hy
        · rw [hy] at k
          exact .inr k.symm
        · exact .inl ⟨y, List.mem_append_right _ hy, k⟩
    · rintro (⟨y, hy, k⟩ | k)
      · rcases List.mem_append.mp hy with hy | hy
        · exact ⟨y, List.mem_append_left _ hy, k⟩
        · exact ⟨y, List.mem_append_right _ (List.mem_cons_of_mem _ hy), k⟩
      · exact ⟨_, List.mem_append_right _ List.mem_cons_self, k.symm⟩
  · refine KDS.add hK hXA hXB h1 h1 g1 g1 hlen h1' h2' (fun y hy hy1 hyA hyB hQ => CHG.ext hQ hy1.2 (hyA hQ.1.1) hyB) ?_
    refine ⟨⟨decide_eq_true g1, ⟨⟨?_, ?_⟩, ⟨?_, ?_⟩, g7⟩⟩, ?_⟩
    · show (s.1 (t + 2) e).toInt = x
      rw [g3]
      exact hr
    · show (s.1 (t + 3) e).toInt = j
      rw [g4]
      exact hp
    · show (u.1 24 e).toInt = x
      rw [g5]
      exact hr
    · show (u.1 25 e).toInt = j
      rw [g6]
      exact hp
    · have e9 : 32 - (L + 1) = 31 - L := by omega
      rw [e9] at hVal
      exact hVal
  · rw [(hXA.1 x h1).1 4 (by omega) (by omega)]
    exact h5
  · rw [(hXA.1 x h1).2]
    exact h5b
  · rw [(hXB.1.1 x h1).2.2.1]
    exact h6
  · rw [(hXB.1.1 x h1).2.2.2]
    exact h6b
  · rw [(hXB.1.1 x h1).1]
    exact h7
theorem RLR.len {t q : Nat} {S T : ST} {L R x : Nat} {n : Int32} {a t1 : ST} {P : Nat → Prop} {σ τ : ST} {e : Nat} {l : List EN} (h : RLR t q S T L R x n a t1 P σ τ e l) {m : Nat} (hP : ∀ j, P j → j < m) : l.length ≤ m := by
  have k := ln_list (l.map (fun y => y.1)) 0 m h.2.2.2.1.2.1.2 (fun i hi => by
    obtain ⟨y, hy, e9⟩ := List.mem_map.mp hi
    exact ⟨by omega, hP i ((h.2.2.1 i).mp ⟨y, hy, e9⟩)⟩)
  rw [List.length_map] at k
  omega
/-- what a step of the reader's fields comes to: it failed; or the reference goes on from there -/
def FLQ (b : Nat) (B : Option (Int32 × ST)) (cont : ST → Option (Int32 × ST)) (RES : ST → ST → Prop) (s : ST) : Prop := (¬ s.1 b 7 = 0 ∧ QT B (fun w => w.1 = 0)) ∨ (s.1 b 7 = 0 ∧ ∀ P : Int32 × ST → Prop, (∀ w, RES s w → QT (cont w) P) → QT B P)
theorem ROUT.cases {b : Nat} {K : ST → ST → Prop} {s : ST} {o : Option (Int32 × ST)} (h : QT o (ROUT b K s)) (hK : ∀ w, K s w → s.1 b 7 = 0) : (¬ s.1 b 7 = 0 ∧ QT o (fun w => w.1 = 0)) ∨ (s.1 b 7 = 0 ∧ QT o (fun w => w.1 = 1 ∧ K s w.2)) := by
  by_cases h7 : s.1 b 7 = 0
  · exact .inr ⟨h7, h.mono (fun w hw => hw.elim (fun h => absurd h7 h.1) id)⟩
  · exact .inl ⟨h7, h.mono (fun w hw => hw.elim (fun h => h.2) (fun h => absurd (hK _ h.2) h7))⟩
theorem ad_fld12 {rT rF rL rO rR : FTK} {b t : Nat} (hb : BT b t) (x1 x2 x3 x4 x5 x6 x7 : Int32) (h7 : ¬ x7 = 0) {σ : ST} (h : ¬ σ.1 b 7 = 0) (n : Nat) (x8 : Int32) : QT (f_X4_takeField_12 rT rF rL rO rR b t n x1 x2 x3 x4 x5 x6 x7 x8 σ) (fun s => ¬ s.1 b 7 = 0) := by
  have k82 : ∀ s : ST, ¬ s.1 b 7 = 0 → QT (f_X4_takeField_82 rT rF rL rO rR b t x1 x5 x7 s) (fun s => ¬ s.1 b 7 = 0) := fun s hs => by
    unfold f_X4_takeField_82
    exact QT.ite (fun e => absurd e h7) (fun _ => QT.ret hs)
  cases n with
  | zero =>
    rw [f_X4_takeField_12]
    exact QT.none
  | succ n =>
    rw [f_X4_takeField_12]
    refine QT.bnd (Q := fun z => ¬ z.2.1 b 7 = 0) (fun z e => ?_) (fun z hz => ?_)
    · have k : KRA b t σ z.2 := wr_X5_fieldsOf (B0 := b) (T0 := t) (s := σ) (KRA.rf hb) z e
      exact k.nz h
    · exact QT.ite (fun _ => k82 _ hz) (fun _ => QT.ite (fun e => absurd e hz) (fun _ => k82 _ hz))
/-- both go back to where the field begins -/
theorem RCX.back {b t m : Nat} {S T σ τ : ST} {x : Nat} (h : RCX b t m S T σ τ x) {p0 : Int32} (hp : 0 ≤ p0.toInt ∧ p0.toInt ≤ (τ.1 0 65).toInt) : RCX b t m S T (stI σ b 5 p0) (stI τ 0 64 p0) x ∧ TRE t σ (stI σ b 5 p0) τ (stI τ 0 64 p0) ∧ ∀ i, (stI σ b 5 p0).1 (b + 2) i = σ.1 (b + 2) i := by
  have hb := h.1.1.1
  have hA : PMA b σ (stI σ b 5 p0) := ⟨fun c hc => stI_ne hc, fun i hi => by rw [stI_at, upN hi], rfl⟩
  have hB : PMB τ (stI τ 0 64 p0) := ⟨fun c hc => stI_ne hc, fun i hi _ => by rw [stI_at, upN hi], fun _ _ => rfl⟩
  have hb' := hb
  unfold BT at hb'
  refine ⟨h.mv ?_ hA hB, PM.tre hb hA hB, fun i => by rw [stI_ne (by omega)]⟩
  obtain ⟨_, ⟨⟨h7, h4, hm⟩, ⟨h5, h6⟩, ⟨hf, g0, g1, g2⟩, hB'⟩, _⟩ := h
  unfold RPS
  rw [hA.2.1 7 (by omega), hA.2.1 4 (by omega), hA.2.1 6 (by omega), hA.1 38 (by omega), hB.2.1 65 (by omega) (by omega), hB.2.1 63 (by omega) (by omega), hB.1 34 (by omega), stI_at, stI_at, upA rfl, upA rfl]
  exact ⟨⟨h7, h4, hm⟩, ⟨rfl, h6⟩, ⟨hf, hp.1, hp.2, g2⟩, hB'⟩
