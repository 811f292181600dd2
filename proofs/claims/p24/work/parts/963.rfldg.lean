/-! a field of a record that the reader wants, both sides -/
/-- while the fields of a record are read: those of Pl are there -/
def RLR (t q : Nat) (S T : ST) (L R x : Nat) (n : Int32) (a t1 : ST) (Pl : Nat → Prop) (σ τ : ST) (e : Nat) (l : List EN) : Prop := x < e ∧ (SUA t x a σ ∧ SUB x t1 τ) ∧ (∀ j, (∃ y, y ∈ l ∧ y.1 = j) ↔ Pl j) ∧ KDS t σ τ (x, e) (x, e) l (fun y => CHG True t q S T (31 - L) x x (S.1 13 (8 * R + y.1)) (T.1 15 (8 * R + y.1)) σ τ y) ∧ (σ.1 (t + 4) x = n ∧ σ.2.1 (t + 6) x = 0) ∧ (τ.2.1 21 x = 0 ∧ τ.2.1 22 x = 0) ∧ (τ.1 20 x).toInt = 7
theorem RLR.iff {t q : Nat} {S T : ST} {L R x : Nat} {n : Int32} {a t1 : ST} {P Q : Nat → Prop} {σ τ : ST} {e : Nat} {l : List EN} (h : RLR t q S T L R x n a t1 P σ τ e l) (k : ∀ j, P j ↔ Q j) : RLR t q S T L R x n a t1 Q σ τ e l := ⟨h.1, h.2.1, fun j => (h.2.2.1 j).trans (k j), h.2.2.2⟩
theorem RLR.tre {t q : Nat} {S T : ST} {L R x : Nat} {n : Int32} {a t1 : ST} {P : Nat → Prop} {σ τ s w : ST} {e : Nat} {l : List EN} (h : RLR t q S T L R x n a t1 P σ τ e l) (hT : TRE t σ s τ w) : RLR t q S T L R x n a t1 P s w e l := by
  obtain ⟨h1, ⟨hs1, hs2⟩, h3, hK, ⟨h5, h5b⟩, ⟨h6, h6b⟩, h7⟩ := h
  refine ⟨h1, ⟨hs1.trans (hT.sua x), hs2.trans (hT.sub x)⟩, h3, ?_, ⟨?_, ?_⟩, ⟨?_, ?_⟩, ?_⟩
  · refine hK.sam (hT.sam x) (hT.sbm x) (by rw [hT.1 (t + 7) (by omega) (by omega)]) (by rw [hT.1 (t + 8) (by omega) (by omega)]) (by rw [hT.2.2.1 28 (by omega) (by omega)]) (by rw [hT.2.2.1 29 (by omega) (by omega)]) (by rw [hT.2.2.1 23 (by omega) (by omega)]) (fun y _ hx hv hn hQ => CHG.ext hQ hn ((hT.sam x).ag (hx hQ.1.1)) ((hT.sbm x).ag hv))
  · rw [hT.1 (t + 4) (by omega) (by omega)]
    exact h5
  · rw [hT.2.1]
    exact h5b
  · rw [hT.2.2.2.1]
    exact h6
  · rw [hT.2.2.2.2]
    exact h6b
  · rw [hT.2.2.1 20 (by omega) (by omega)]
    exact h7
theorem RLR.rows {t q : Nat} {S T : ST} {L R x : Nat} {n : Int32} {a t1 : ST} {P : Nat → Prop} {σ τ : ST} {e : Nat} {l : List EN} (h : RLR t q S T L R x n a t1 P σ τ e l) : (∀ r, r ∈ rA l → x < r) ∧ ∀ r, r ∈ rB l → x < r := by
  obtain ⟨_, _, _, hK, _⟩ := h
  refine ⟨fun r hr => ?_, fun r hr => ?_⟩
  · obtain ⟨y, y1, y2, y3⟩ := mem_rA hr
    have k : x < y.2.1.1 := ((hK.2.2.2 y y1).2.1.1 y2).1
    omega
  · obtain ⟨y, y1, y3⟩ := mem_rB hr
    have k : x < y.2.2.1 := (hK.2.2.2 y y1).1.1
    omega
/-- where a field more comes -/
theorem RLR.split {t q : Nat} {S T : ST} {L R x : Nat} {n : Int32} {a t1 : ST} {P : Nat → Prop} {σ τ : ST} {e : Nat} {l : List EN} (h : RLR t q S T L R x n a t1 P σ τ e l) {j : Nat} (hj : ¬ P j) (hj8 : j < 8) {row pl : Int32} (hr : row.toInt = x) (hp : pl.toInt = j) : ∃ l1 l2, l = l1 ++ l2 ∧ (∀ y, y ∈ l1 → y.1 < j) ∧ (∀ y, y ∈ l2 → j < y.1) ∧ PARG t σ τ e e row row pl l1 l2 := by
  obtain ⟨h1, _, h3, hK, _⟩ := h
  obtain ⟨l1, l2, el, g1, g2⟩ := spt_list l hK.2.1.2 j (fun y hy e9 => hj ((h3 j).mp ⟨y, hy, e9⟩))
  refine ⟨l1, l2, el, g1, g2, .inr ⟨x, x, _, ⟨⟨hr, h1⟩, hr, h1⟩, by rw [← el]; exact hK, fun y hy => ?_, fun y hy => ?_, fun y hy => ?_, ⟨by omega, by omega⟩, .inl (by omega)⟩⟩
  · rw [← el] at hy
    obtain ⟨_, _, ⟨_, hk⟩, _⟩ := hK.2.2.2 y hy
    exact ⟨fun _ => hk.1.2, hk.2.1.2⟩
  · have := g1 y hy
    omega
  · have := g2 y hy
    omega
/-- one field more -/
theorem RLR.add {b t m q : Nat} {S T : ST} {L R x : Nat} {n : Int32} {a t1 : ST} {P : Nat → Prop} {σ τ s u : ST} {e : Nat} {l1 l2 : List EN} (h : RLR t q S T L R x n a t1 P σ τ e (l1 ++ l2)) {j : Nat} (h1' : ∀ y, y ∈ l1 → y.1 < j) (h2' : ∀ y, y ∈ l2 → j < y.1) {row pl : Int32} (hr : row.toInt = x) (hp : pl.toInt = j) (hL : L ≤ 30) (hlen : (l1 ++ l2).length < 1000000) (hV : RVP b t m q (L + 1) S T (S.1 13 (8 * R + j)) (T.1 15 (8 * R + j)) e row pl l1 l2 σ τ s u) : ∃ e', RCX b t m S T s u e' ∧ RLR t q S T L R x n a t1 (fun i => P i ∨ i = j) s u e' (l1 ++ (j, (e, e'), (e, e')) :: l2) ∧ SRK b (L + 1) σ s := by
  have hrow := h.rows
  obtain ⟨h1, ⟨hs1, hs2⟩, h3, hK, ⟨h5, h5b⟩, ⟨h6, h6b⟩, h7⟩ := h
  obtain ⟨e', hC, g1, hVal, ⟨⟨g3, g4⟩, ⟨g5, g6⟩, g7⟩, ⟨hXA, hXB⟩, hS⟩ := hV
  rw [hr] at hXA hXB
  have hsu : SUA t x σ s := hXA.su h1 (fun r hr => hrow.1 r (by rw [rA_app]; exact List.mem_append_left _ hr))
  have hsb : SUB x τ u := hXB.su h1 (fun r hr => hrow.2 r (by rw [rB_app]; exact List.mem_append_left _ hr))
  refine ⟨e', hC, ⟨by omega, ⟨hs1.trans hsu, hs2.trans hsb⟩, fun i => ?_, ?_, ⟨?_, ?_⟩, ⟨?_, ?_⟩, ?_⟩, hS⟩
  · show (∃ y, y ∈ l1 ++ (j, (e, e'), (e, e')) :: l2 ∧ y.1 = i) ↔ (P i ∨ i = j)
    rw [← h3 i]
    constructor
    · rintro ⟨y, hy, k⟩
      rcases List.mem_append.mp hy with hy | hy
      · exact .inl ⟨y, List.mem_append_left _ hy, k⟩
      · rcases List.mem_cons.mp hy with hy | hy
        · rw [hy] at k
          exact .inr k.symm
        · exact .inl ⟨y, List.mem_append_right _ hy, k⟩
    · rintro (⟨y, hy, k⟩ | k)
      · rcases List.mem_append.mp hy with hy | hy
        · exact ⟨y, List.mem_append_left _ hy, k⟩
        · exact ⟨y, List.mem_append_right _ (List.mem_cons_of_mem _ hy), k⟩
      · exact ⟨_, List.mem_append_right _ List.mem_cons_self, k.symm⟩
  · refine KDS.add hK hXA hXB h1 h1 g1 g1 hlen h1' h2' (fun y hy hy1 hyA hyB hQ => CHG.ext hQ hy1.2 (hyA hQ.1.1) hyB) ?_
    refine ⟨⟨decide_eq_true g1, ⟨⟨?_, ?_⟩, ⟨?_, ?_⟩, g7⟩⟩, ?_⟩
    · show (s.1 (t + 2) e).toInt = x
      rw [g3]
      exact hr
    · show (s.1 (t + 3) e).toInt = j
      rw [g4]
      exact hp
    · show (u.1 24 e).toInt = x
      rw [g5]
      exact hr
    · show (u.1 25 e).toInt = j
      rw [g6]
      exact hp
    · have e9 : 32 - (L + 1) = 31 - L := by omega
      rw [e9] at hVal
      exact hVal
  · rw [(hXA.1 x h1).1 4 (by omega) (by omega)]
    exact h5
  · rw [(hXA.1 x h1).2]
    exact h5b
  · rw [(hXB.1.1 x h1).2.2.1]
    exact h6
  · rw [(hXB.1.1 x h1).2.2.2]
    exact h6b
  · rw [(hXB.1.1 x h1).1]
    exact h7
theorem RLR.len {t q : Nat} {S T : ST} {L R x : Nat} {n : Int32} {a t1 : ST} {P : Nat → Prop} {σ τ : ST} {e : Nat} {l : List EN} (h : RLR t q S T L R x n a t1 P σ τ e l) {m : Nat} (hP : ∀ j, P j → j < m) : l.length ≤ m := by
  have k := ln_list (l.map (fun y => y.1)) 0 m h.2.2.2.1.2.1.2 (fun i hi => by
    obtain ⟨y, hy, e9⟩ := List.mem_map.mp hi
    exact ⟨by omega, hP i ((h.2.2.1 i).mp ⟨y, hy, e9⟩)⟩)
  rw [List.length_map] at k
  omega
/-- what a step of the reader's fields comes to: it failed; or the reference goes on from there -/
def FLQ (b : Nat) (B : Option (Int32 × ST)) (cont : ST → Option (Int32 × ST)) (RES : ST → ST → Prop) (s : ST) : Prop := (¬ s.1 b 7 = 0 ∧ QT B (fun w => w.1 = 0)) ∨ (s.1 b 7 = 0 ∧ ∀ P : Int32 × ST → Prop, (∀ w, RES s w → QT (cont w) P) → QT B P)
theorem ROUT.cases {b : Nat} {K : ST → ST → Prop} {s : ST} {o : Option (Int32 × ST)} (h : QT o (ROUT b K s)) (hK : ∀ w, K s w → s.1 b 7 = 0) : (¬ s.1 b 7 = 0 ∧ QT o (fun w => w.1 = 0)) ∨ (s.1 b 7 = 0 ∧ QT o (fun w => w.1 = 1 ∧ K s w.2)) := by
  by_cases h7 : s.1 b 7 = 0
  · exact .inr ⟨h7, h.mono (fun w hw => hw.elim (fun h => absurd h7 h.1) id)⟩
  · exact .inl ⟨h7, h.mono (fun w hw => hw.elim (fun h => h.2) (fun h => absurd (hK _ h.2) h7))⟩
theorem ad_fld12 {rT rF rL rO rR : FTK} {b t : Nat} (hb : BT b t) (x1 x2 x3 x4 x5 x6 x7 : Int32) (h7 : ¬ x7 = 0) {σ : ST} (h : ¬ σ.1 b 7 = 0) (n : Nat) (x8 : Int32) : QT (f_X4_takeField_12 rT rF rL rO rR b t n x1 x2 x3 x4 x5 x6 x7 x8 σ) (fun s => ¬ s.1 b 7 = 0) := by
  have k82 : ∀ s : ST, ¬ s.1 b 7 = 0 → QT (f_X4_takeField_82 rT rF rL rO rR b t x1 x5 x7 s) (fun s => ¬ s.1 b 7 = 0) := fun s hs => by
    unfold f_X4_takeField_82
    exact QT.ite (fun e => absurd e h7) (fun _ => QT.ret hs)
  cases n with
  | zero =>
    rw [f_X4_takeField_12]
    exact QT.none
  | succ n =>
    rw [f_X4_takeField_12]
    refine QT.bnd (Q := fun z => ¬ z.2.1 b 7 = 0) (fun z e => ?_) (fun z hz => ?_)
    · have k : KRA b t σ z.2 := wr_X5_fieldsOf (B0 := b) (T0 := t) (s := σ) (KRA.rf hb) z e
      exact k.nz h
    · exact QT.ite (fun _ => k82 _ hz) (fun _ => QT.ite (fun e => absurd e hz) (fun _ => k82 _ hz))
/-- both go back to where the field begins -/
theorem RCX.back {b t m : Nat} {S T σ τ : ST} {x : Nat} (h : RCX b t m S T σ τ x) {p0 : Int32} (hp : 0 ≤ p0.toInt ∧ p0.toInt ≤ (τ.1 0 65).toInt) : RCX b t m S T (stI σ b 5 p0) (stI τ 0 64 p0) x ∧ TRE t σ (stI σ b 5 p0) τ (stI τ 0 64 p0) ∧ ∀ i, (stI σ b 5 p0).1 (b + 2) i = σ.1 (b + 2) i := by
  have hb := h.1.1.1
  have hA : PMA b σ (stI σ b 5 p0) := ⟨fun c hc => stI_ne hc, fun i hi => by rw [stI_at, upN hi], rfl⟩
  have hB : PMB τ (stI τ 0 64 p0) := ⟨fun c hc => stI_ne hc, fun i hi _ => by rw [stI_at, upN hi], fun _ _ => rfl⟩
  have hb' := hb
  unfold BT at hb'
  refine ⟨h.mv ?_ hA hB, PM.tre hb hA hB, fun i => by rw [stI_ne (by omega)]⟩
  obtain ⟨_, ⟨⟨h7, h4, hm⟩, ⟨h5, h6⟩, ⟨hf, g0, g1, g2⟩, hB'⟩, _⟩ := h
  unfold RPS
  rw [hA.2.1 7 (by omega), hA.2.1 4 (by omega), hA.2.1 6 (by omega), hA.1 38 (by omega), hB.2.1 65 (by omega) (by omega), hB.2.1 63 (by omega) (by omega), hB.1 34 (by omega), stI_at, stI_at, upA rfl, upA rfl]
  exact ⟨⟨h7, h4, hm⟩, ⟨rfl, h6⟩, ⟨hf, hp.1, hp.2, g2⟩, hB'⟩
/-! the reader's fields that one field of the writer is for, both sides -/
/-- which of the reader's fields are there, as the writer's i-th is read, up to the reader's j-th -/
def PLJ (z : Nat → Int32) (mR i j : Nat) (k : Nat) : Prop := k < mR ∧ 0 ≤ (z k).toInt ∧ ((z k).toInt < i ∨ (z k).toInt = i ∧ k < j)
theorem FLQ.none {b : Nat} {cont : ST → Option (Int32 × ST)} {RES : ST → ST → Prop} {s : ST} : FLQ b Option.none cont RES s := by
  by_cases h : s.1 b 7 = 0
  · exact .inr ⟨h, fun _ _ => QT.none⟩
  · exact .inl ⟨h, QT.none⟩
theorem FLQ.imp {b : Nat} {B : Option (Int32 × ST)} {cont : ST → Option (Int32 × ST)} {RES RES' : ST → ST → Prop} {s : ST} (h : FLQ b B cont RES s) (k : ∀ w, RES s w → RES' s w) : FLQ b B cont RES' s := by
  rcases h with h | ⟨h1, h2⟩
  · exact .inl h
  · exact .inr ⟨h1, fun P hP => h2 P (fun w hw => hP w (k w hw))⟩
/-- where both stand behind a field -/
def RFE (b t m q : Nat) (S T : ST) (L R x mR : Nat) (n0 : Int32) (a t1 : ST) (z : Nat → Int32) (Pl : Nat → Prop) (σ s w : ST) : Prop := ∃ (e : Nat) (l : List EN), RCX b t m S T s w e ∧ (∀ j, j < mR → s.1 (b + 2) (8 * L + j) = z j) ∧ RLR t q S T L R x n0 a t1 Pl s w e l ∧ SRK b L σ s
theorem r_fld12 {b t m p q : Nat} {S T : ST} {rT rF rL rO rR : FTK} {rb : FRD} {rI rS : Int32 → Int32 → Int32 → Int32 → ST → Option (Int32 × ST)} (hS : RST p q S T) (hT : cTK b t m p q S T rT rb) {L : Nat} (hL : L ≤ 30) (xR yR u uB lev x5 x6 fi x8 row : Int32) {w r mW mR i x : Nat} (hP : RPR p q T xR yR u uB w r mW mR) (hlev : lev.toInt = L) (hx5 : x5.toInt = 6 * (p : Int) + w) (hx6 : x6.toInt = 6 * (q : Int) + r) (hfi : fi.toInt = i) (hi : i < mW) (hx8 : x8.toInt = 8 * (6 * (p : Int) + w) + i) (hrow : row.toInt = x) (hu : 0 ≤ u.toInt ∧ u.toInt < 800) (huB : 0 ≤ uB.toInt ∧ uB.toInt < 800) (z : Nat → Int32) (hz : ∀ j, j < mR → SRJ T p q w r mW (T.1 3 u.toNatClampNeg) j (z j)) (n0 : Int32) (a t1 : ST) (p0 : Int32) (k43 : Int32 → Int32 → Int32 → Int32 → Int32 → Int32 → Int32 → ST → Option (Int32 × ST)) : ∀ (n M j : Nat) (x7 x10 x11 : Int32) (σ τ : ST) (e : Nat) (l : List EN), RCX b t m S T σ τ e → (∀ j, j < mR → σ.1 (b + 2) (8 * L + j) = z j) → RLR t q S T L (6 * q + r) x n0 a t1 (PLJ z mR i j) σ τ e l → x11.toInt = j → j ≤ mR → (x7 = 0 ∧ x10 = 0 ∨ ¬ x7 = 0 ∧ 1 ≤ x10.toInt ∧ x10.toInt ≤ j) → (0 ≤ p0.toInt ∧ p0.toInt ≤ (T.1 0 65).toInt) → QT (f_X4_takeField_12 rT rF rL rO rR b t n (S.1 13 (8 * (6 * p + w) + i)) fi yR row lev p0 x7 x11 σ) (fun s => FLQ b (f_X11_readsRecord_83 rb rI rS k43 M u uB lev row x5 x6 fi x8 p0 x10 x11 τ) (fun w' => f_X11_readsRecord_198 rb rI rS k43 u uB lev row x5 x6 fi w') (RFE b t m q S T L (6 * q + r) x mR n0 a t1 z (PLJ z mR (i + 1) 0) σ) s) := by
  have l0 := li_0
  have l1 := li_1
  have lm := li_m1
  have l8 := li_8
  have el := il_addE (x := lev) (y := 1) (by omega) (by omega)
  have hP' := hP
  obtain ⟨⟨hx, hy⟩, ⟨hw, hr⟩, ⟨hu3, huB3⟩, ⟨hmW, hmR⟩, hPR⟩ := hP'
  have acP := hS.1.2.2.1.1.acc hw
  have acQ := hS.1.2.2.1.2.acc hr
  have cP := hS.1.2.2.1.1.cnt
  have cQ := hS.1.2.2.1.2.cnt
  have hp6 := hS.1.1
  have mW8 : mW ≤ 8 := by
    have := acP.2.2.1.2
    rw [hmW] at this
    omega
  have mR8 : mR ≤ 8 := by
    have := acQ.2.2.1.2
    rw [hmR] at this
    omega
  obtain ⟨⟨_, _⟩, _, hTu, _⟩ := acP.2.2.2.2 i (by omega)
  have hTu : TY p (T.1 8 p).toInt S T 4 (S.1 13 (8 * (6 * p + w) + i)) (T.1 15 (8 * (6 * p + w) + i)) := hTu
  have n8 : x8.toNatClampNeg = 8 * (6 * p + w) + i := nC (by omega)
  have n6 : x6.toNatClampNeg = 6 * q + r := nC (by omega)
  intro n
  induction n with
  | zero =>
    intro M j x7 x10 x11 σ τ e l _ _ _ _ _ _ _
    rw [f_X4_takeField_12]
    exact QT.none
  | succ n ih =>
    intro M j x7 x10 x11 σ τ e l hC hzσ hR h11 hj hfl hp0
    cases M with
    | zero =>
      refine fun s _ => ?_
      rw [f_X11_readsRecord_83]
      exact FLQ.none
    | succ M =>
      have k7 := (hC.1.1.kta 7 (by omega) (by omega)).1
      have e11 := hC.1.2.fl.2.1
      have e3 : τ.1 3 = T.1 3 := hC.1.2.ty.2.1
      have e15 : τ.1 15 = T.1 15 := hC.1.2.fl.2.2.1
      have hm : (σ.1 7 (6 * q + r)).toInt = mR := by rw [k7, acQ.2.1]; exact hmR
      rw [f_X4_takeField_12, f_X11_readsRecord_83, a4_fieldsOf yR σ (r := 6 * q + r) (by omega) (by omega), sbnd]
      dsimp only
      rw [if_neg (fun h => by have := il_lt h; omega : ¬ uB < 0), if_pos (⟨by omega, by omega⟩ : 0 ≤ x6.toInt ∧ x6.toInt < 72), n6, e11]
      refine QT.ile (fun hle => ?_) (fun hlt => ?_)
      · have hle' : T.1 11 (6 * q + r) ≤ x11 := Int32.le_iff_toInt_le.mpr (by omega)
        rw [if_pos hle']
        have hR' : RLR t q S T L (6 * q + r) x n0 a t1 (PLJ z mR (i + 1) 0) σ τ e l := hR.iff (fun k => by
          unfold PLJ
          omega)
        unfold f_X4_takeField_82 f_X11_readsRecord_171
        rcases hfl with ⟨f7, f10⟩ | ⟨f7, f10, f10'⟩
        · rw [if_pos f7, if_pos f10, n8, e15, if_pos (⟨by omega, by omega⟩ : 0 ≤ x8.toInt ∧ x8.toInt < 576)]
          refine QT.bnd ((hT _ _ (lev + 1) (L + 1) 4 e σ τ hTu (by omega) (by omega) (by omega) hC).1 (-1) 0 (-1) 0) (fun s hs => QT.ret ?_)
          rcases ROUT.cases hs (fun w' h => h.1.2.1.1.1) with ⟨g1, g2⟩ | ⟨g1, g2⟩
          · exact .inl ⟨g1, QT.bnd g2 (fun w' hw' => QT.ite (fun _ => QT.ret rfl) (fun h => absurd hw' h))⟩
          · refine .inr ⟨g1, fun P hP => QT.bnd g2 (fun w' hw' => QT.ite (fun h => by rw [hw'.1] at h; exact absurd h one_ne) (fun _ => ?_))⟩
            obtain ⟨_, hK⟩ := hw'
            exact hP _ ⟨e, l, hK.1, fun j hj => (hK.2.2 _ (by omega)).trans (hzσ j hj), hR'.tre hK.2.1, hK.2.2.wk (by omega)⟩
        · rw [if_neg f7, if_neg (fun h => by rw [h] at f10; omega : ¬ x10 = 0)]
          exact QT.ret (.inr ⟨hC.2.1.1.1, fun P hP => hP _ ⟨e, l, hC, hzσ, hR', SRK.rf⟩⟩)
      · have hjm : j < mR := by omega
        have hlt' : ¬ T.1 11 (6 * q + r) ≤ x11 := fun h => by have := il_le h; omega
        rw [if_neg hlt', if_pos hu]
        refine QT.ite (fun _ => ?_) (fun h => absurd hC.2.1.1.1 h)
        rw [a_sourceAt b t lev x11 σ hL hlev h11 (by omega), sbnd]
        dsimp only
        rw [hzσ j hjm]
        have em := mlE (k := 8) (y := x6) 8 l8 (by omega) (by omega)
        have ea := il_addE (x := 8 * x6) (y := x11) (by omega) (by omega)
        have na : (8 * x6 + x11).toNatClampNeg = 8 * (6 * q + r) + j := nC (by omega)
        have hf : (8 * x6 + x11).toInt = 8 * (6 * (q : Int) + r) + j := by omega
        obtain ⟨y, y1, y2⟩ := hz j hjm (8 * x6 + x11) hf
        rw [e3, hC.1.2.ff' y1, sbnd]
        dsimp only
        have e9 := il_addE (x := x11) (y := 1) (by omega) (by omega)
        by_cases hzi : z j = fi
        · have hy8 : y = x8 := by
            rcases y2 with ⟨g1, _⟩ | ⟨i', _, g2, g3⟩
            · rw [hzi] at g1
              omega
            · rw [hzi] at g2
              exact Int32.toInt_inj.mp (by omega)
          rw [if_pos hzi, if_pos hy8, if_pos (⟨by omega, by omega⟩ : 0 ≤ x8.toInt ∧ x8.toInt < 576), if_pos (⟨by omega, by omega⟩ : 0 ≤ (8 * x6 + x11).toInt ∧ (8 * x6 + x11).toInt < 576), n8, na]
          obtain ⟨hC1, hT1, hs1⟩ := hC.back (p0 := p0) ⟨hp0.1, by rw [hC.1.2.2.1 65 (by omega) (by omega) (by omega) (by omega) (by omega) (by omega) (by omega)]; exact hp0.2⟩
          have hR1 := hR.tre hT1
          have hzσ1 : ∀ j, j < mR → (stI σ b 5 p0).1 (b + 2) (8 * L + j) = z j := fun j hj => (hs1 _).trans (hzσ j hj)
          have e15' : (stI τ 0 64 p0).1 15 = T.1 15 := (stI_ne (by omega)).trans e15
          rw [e15']
          generalize stI σ b 5 p0 = σ1 at hC1 hT1 hs1 hR1 hzσ1
          generalize stI τ 0 64 p0 = τ1 at hC1 hT1 hR1 e15'
          rw [a4_typeOf yR x11 σ1 (r := 6 * q + r) (j := j) (by omega) h11 (by omega) (by omega), sbnd]
          dsimp only
          have k13 := (hC1.1.1.kta 13 (by omega) (by omega)).1
          rw [k13]
          obtain ⟨⟨_, _⟩, _, hTv, _⟩ := acQ.2.2.2.2 j (by omega)
          have hTv : TY q (T.1 8 q).toInt S T 4 (S.1 13 (8 * (6 * q + r) + j)) (T.1 15 (8 * (6 * q + r) + j)) := hTv
          have rv := hTv.rng.1
          have hnP : ¬ PLJ z mR i j j := fun h => by
            have := h.2.2
            rw [hzi] at this
            omega
          obtain ⟨l1, l2, ell, g1, g2, hPar⟩ := hR1.split hnP (by omega) hrow h11
          have hMS : MS T (T.1 15 (8 * (6 * p + w) + i)) (T.1 15 (8 * (6 * q + r) + j)) := by
            have e53 := hS.1.2.1.1
            have e54 := hS.1.2.1.2
            have n54 : (T.1 0 54).toNatClampNeg = q := nC e54
            have wn : (T.1 3 u.toNatClampNeg).toNatClampNeg = w := nC hu3
            have rn : (T.1 3 uB.toNatClampNeg).toNatClampNeg = r := nC huB3
            obtain ⟨_, _, hx9⟩ := hS.2.2.2.2.1 (T.1 3 u.toNatClampNeg) (T.1 3 uB.toNatClampNeg) (by omega) (by omega) (by omega) (by omega) (by rw [wn, rn]; exact hPR)
            have hk := (hx9 j (8 * x6 + x11) y (by rw [n54, rn, hmR]; omega) (by omega) y1).1 (by rw [hy8]; omega)
            rw [hy8, n8, na] at hk
            exact hk
          subst ell
          refine QT.bnd ((hT _ _ (lev + 1) (L + 1) 4 e σ1 τ1 hTu (by omega) (by omega) (by omega) hC1).2 _ _ row x11 4 l1 l2 (fun h => by rw [h] at rv; omega) hTv (by omega) hMS hPar) (fun s hs => ?_)
          unfold f_X4_takeField_76
          rcases ROUT.cases hs (fun w' h => by obtain ⟨e', h1, _⟩ := h; exact h1.2.1.1.1) with ⟨f1, f2⟩ | ⟨f1, f2⟩
          · refine (ad_fld12 hC.1.1.1 _ fi yR row lev p0 1 one_ne f1 n _).mono (fun s2 hs2 => ?_)
            exact .inl ⟨hs2, QT.bnd f2 (fun w' hw' => QT.ite (fun _ => QT.ret rfl) (fun h => absurd hw' h))⟩
          · intro s2 es2
            -- the reference goes on from each of its states
            have key : ∀ w' : Int32 × ST, (w'.1 = 1 ∧ RVP b t m q (L + 1) S T (S.1 13 (8 * (6 * q + r) + j)) (T.1 15 (8 * (6 * q + r) + j)) e row x11 l1 l2 σ1 τ1 s w'.2) → FLQ b (f_X11_readsRecord_83 rb rI rS k43 M u uB lev row x5 x6 fi x8 p0 (x10 + 1) (x11 + 1) w'.2) (fun w' => f_X11_readsRecord_198 rb rI rS k43 u uB lev row x5 x6 fi w') (RFE b t m q S T L (6 * q + r) x mR n0 a t1 z (PLJ z mR (i + 1) 0) σ) s2 := fun w' hw' => by
              have hlen := hR1.len (m := 8) (fun j h => by have := h.1; omega)
              obtain ⟨e', hC2, hR2, hS2⟩ := hR1.add g1 g2 hrow h11 hL (by omega) hw'.2
              have hb10 : 0 ≤ x10.toInt ∧ x10.toInt ≤ j := by
                rcases hfl with ⟨_, h⟩ | ⟨_, h⟩
                · rw [h]
                  omega
                · omega
              have e10 := il_addE (x := x10) (y := 1) (by omega) (by omega)
              have hR3 : RLR t q S T L (6 * q + r) x n0 a t1 (PLJ z mR i (j + 1)) s w'.2 e' _ := hR2.iff (fun k => by
                unfold PLJ
                constructor
                · rintro (h | h)
                  · omega
                  · subst h
                    rw [hzi]
                    omega
                · intro h
                  by_cases e9 : k = j
                  · exact .inr e9
                  · exact .inl (by omega))
              have hS3 : SRK b L σ s := fun i hi => (hS2 i (by omega)).trans (hs1 i)
              exact (ih M (j + 1) 1 (x10 + 1) (x11 + 1) s w'.2 e' _ hC2 (fun j hj => (hS2 _ (by omega)).trans (hzσ1 j hj)) hR3 (by omega) (by omega) (.inr ⟨one_ne, by omega, by omega⟩) hp0 s2 es2).imp (fun w'' h => by
                obtain ⟨e3', l3, a1, a2, a3, a4⟩ := h
                exact ⟨e3', l3, a1, a2, a3, hS3.trans a4⟩)
            by_cases h7 : s2.1 b 7 = 0
            · refine .inr ⟨h7, fun P hP => QT.bnd f2 (fun w' hw' => QT.ite (fun h => by rw [hw'.1] at h; exact absurd h one_ne) (fun _ => ?_))⟩
              unfold f_X11_readsRecord_165
              rcases key w' hw' with ⟨k1, _⟩ | ⟨_, k2⟩
              · exact absurd h7 k1
              · exact k2 P hP
            · refine .inl ⟨h7, QT.bnd f2 (fun w' hw' => QT.ite (fun h => by rw [hw'.1] at h; exact absurd h one_ne) (fun _ => ?_))⟩
              unfold f_X11_readsRecord_165
              rcases key w' hw' with ⟨_, k1⟩ | ⟨k1, _⟩
              · exact k1
              · exact absurd k1 h7
        · have hy8 : ¬ y = x8 := fun h => by
            rcases y2 with ⟨_, g1⟩ | ⟨i', _, g2, g3⟩
            · rw [h] at g1
              omega
            · rw [h] at g3
              exact hzi (Int32.toInt_inj.mp (by omega))
          rw [if_neg hzi, if_neg hy8]
          unfold f_X4_takeField_76 f_X11_readsRecord_165
          have hR3 : RLR t q S T L (6 * q + r) x n0 a t1 (PLJ z mR i (j + 1)) σ τ e l := hR.iff (fun k => by
            unfold PLJ
            constructor
            · intro h
              omega
            · intro h
              by_cases e9 : k = j
              · subst e9
                have h9 : ¬ (z k).toInt = fi.toInt := fun h => hzi (Int32.toInt_inj.mp h)
                omega
              · omega)
          exact ih M (j + 1) x7 x10 (x11 + 1) σ τ e l hC hzσ hR3 (by omega) (by omega) (hfl.imp id (fun h => ⟨h.1, h.2.1, by omega⟩)) hp0
/-! the fields of a record that the reader wants, both sides -/
def cFLN (b t m p q : Nat) (S T : ST) (rF : FTK) (rb : FRD) : Prop := ∀ (xR yR u uB lev x5 x6 fi x8 row p0 : Int32) (L w r mW mR i x e : Nat) (z : Nat → Int32) (n0 : Int32) (a t1 σ τ : ST) (l : List EN), L ≤ 30 → RPR p q T xR yR u uB w r mW mR → lev.toInt = L → x5.toInt = 6 * (p : Int) + w → x6.toInt = 6 * (q : Int) + r → fi.toInt = i → i < mW → x8.toInt = 8 * (6 * (p : Int) + w) + i → row.toInt = x → (0 ≤ u.toInt ∧ u.toInt < 800) → (0 ≤ uB.toInt ∧ uB.toInt < 800) → (∀ j, j < mR → SRJ T p q w r mW (T.1 3 u.toNatClampNeg) j (z j)) → RCX b t m S T σ τ e → (∀ j, j < mR → σ.1 (b + 2) (8 * L + j) = z j) → RLR t q S T L (6 * q + r) x n0 a t1 (PLJ z mR i 0) σ τ e l → p0 = τ.1 0 64 → QT (rF b t (S.1 13 (8 * (6 * p + w) + i)) fi yR row lev σ) (fun s => ∀ (rI rS : Int32 → Int32 → Int32 → Int32 → ST → Option (Int32 × ST)) (k43 : Int32 → Int32 → Int32 → Int32 → Int32 → Int32 → Int32 → ST → Option (Int32 × ST)) (M : Nat), FLQ b (f_X11_readsRecord_83 rb rI rS k43 M u uB lev row x5 x6 fi x8 p0 0 0 τ) (fun w' => f_X11_readsRecord_198 rb rI rS k43 u uB lev row x5 x6 fi w') (RFE b t m q S T L (6 * q + r) x mR n0 a t1 z (PLJ z mR (i + 1) 0) σ) s)
theorem cfln_top {b t m p q : Nat} {S T : ST} {rT rF rL rO rR : FTK} {rb : FRD} (hS : RST p q S T) (hT : cTK b t m p q S T rT rb) : cFLN b t m p q S T (f_X4_takeField rT rF rL rO rR) rb := by
  intro xR yR u uB lev x5 x6 fi x8 row p0 L w r mW mR i x e z n0 a t1 σ τ l hL hP hlev hx5 hx6 hfi hi hx8 hrow hu huB hz hC hzσ hR hp0
  unfold f_X4_takeField
  have e5 : σ.1 b 5 = p0 := by rw [hp0]; exact hC.2.1.2.1.1
  rw [e5]
  intro s es rI rS k43 M
  have h65 : τ.1 0 65 = T.1 0 65 := hC.1.2.2.1 65 (by omega) (by omega) (by omega) (by omega) (by omega) (by omega) (by omega)
  have hpos := hC.2.1.2.2.1
  exact r_fld12 (rF := rF) (rL := rL) (rO := rO) (rR := rR) (rI := rI) (rS := rS) hS hT hL xR yR u uB lev x5 x6 fi x8 row hP hlev hx5 hx6 hfi hi hx8 hrow hu huB z hz n0 a t1 p0 k43 FU M 0 0 0 0 σ τ e l hC hzσ hR li_0 (by omega) (.inl ⟨rfl, rfl⟩) (by rw [hp0, ← h65]; exact ⟨hpos.2.1, hpos.2.2.1⟩) s es
/-- where both stand behind a record's fields -/
def RND (b t m q : Nat) (S T : ST) (L R x mR : Nat) (n0 : Int32) (a t1 : ST) (σ s w : ST) : Prop := ∃ (e : Nat) (l : List EN), RCX b t m S T s w e ∧ RLR t q S T L R x n0 a t1 (fun k => k < mR) s w e l ∧ SRK b L σ s
theorem r_fldsn {b t m p q : Nat} {S T : ST} {rT rF rL rO rR : FTK} {rb : FRD} {rI rS : Int32 → Int32 → Int32 → Int32 → ST → Option (Int32 × ST)} (hS : RST p q S T) (hF : cFLN b t m p q S T rF rb) {L : Nat} (hL : L ≤ 30) (xR yR u uB lev x5 x6 row : Int32) {w r mW mR x : Nat} (hP : RPR p q T xR yR u uB w r mW mR) (hlev : lev.toInt = L) (hx5 : x5.toInt = 6 * (p : Int) + w) (hx6 : x6.toInt = 6 * (q : Int) + r) (hrow : row.toInt = x) (hu : 0 ≤ u.toInt ∧ u.toInt < 800) (huB : 0 ≤ uB.toInt ∧ uB.toInt < 800) (z : Nat → Int32) (hz : ∀ j, j < mR → SRJ T p q w r mW (T.1 3 u.toNatClampNeg) j (z j)) (n0 : Int32) (a t1 : ST) (hE : ∀ (σ τ : ST) (e : Nat) (l : List EN), RCX b t m S T σ τ e → (∀ j, j < mR → σ.1 (b + 2) (8 * L + j) = z j) → RLR t q S T L (6 * q + r) x n0 a t1 (PLJ z mR mW 0) σ τ e l → QT (f_X4_takeRecord_109 rT rF rL rO rR b t lev yR row σ) (fun s => QT (f_X11_readsRecord_217 rb rI rS FU u uB row x6 0 τ) (ROUT b (RND b t m q S T L (6 * q + r) x mR n0 a t1 σ) s))) : ∀ (n M i : Nat) (x8 : Int32) (σ τ : ST) (e : Nat) (l : List EN), RCX b t m S T σ τ e → (∀ j, j < mR → σ.1 (b + 2) (8 * L + j) = z j) → RLR t q S T L (6 * q + r) x n0 a t1 (PLJ z mR i 0) σ τ e l → x8.toInt = i → i ≤ mW → QT (f_X4_takeRecord_51 rT rF rL rO rR b t n xR lev yR row x8 σ) (fun s => QT (f_X11_readsRecord_43 rb rI rS M u uB lev row x5 x6 x8 τ) (ROUT b (RND b t m q S T L (6 * q + r) x mR n0 a t1 σ) s)) := by
  have l0 := li_0
  have l1 := li_1
  have l8 := li_8
  have hP' := hP
  obtain ⟨⟨hx, hy⟩, ⟨hw, hr⟩, ⟨hu3, huB3⟩, ⟨hmW, hmR⟩, _⟩ := hP'
  have acP := hS.1.2.2.1.1.acc hw
  have cP := hS.1.2.2.1.1.cnt
  have hp6 := hS.1.1
  have mW8 : mW ≤ 8 := by
    have := acP.2.2.1.2
    rw [hmW] at this
    omega
  have n5 : x5.toNatClampNeg = 6 * p + w := nC (by omega)
  intro n
  induction n with
  | zero =>
    intro M i x8 σ τ e l _ _ _ _ _
    rw [f_X4_takeRecord_51]
    exact QT.none
  | succ n ih =>
    intro M i x8 σ τ e l hC hzσ hR h8 hi
    cases M with
    | zero =>
      refine fun s _ => ?_
      rw [f_X11_readsRecord_43]
      exact QT.none
    | succ M =>
      have k7 := (hC.1.1.kta 7 (by omega) (by omega)).1
      have e11 := hC.1.2.fl.2.1
      have hm : (σ.1 7 (6 * p + w)).toInt = mW := by rw [k7, acP.2.1]; exact hmW
      rw [f_X4_takeRecord_51, f_X11_readsRecord_43, a4_fieldsOf xR σ (r := 6 * p + w) (by omega) (by omega), sbnd]
      dsimp only
      rw [n5, e11]
      refine QT.sw ?_
      refine QT.grd (fun _ => ?_)
      refine QT.sw ?_
      refine QT.ile (fun hle => ?_) (fun hlt => ?_)
      · have ei : i = mW := by omega
        subst ei
        refine QT.sw ?_
        refine QT.ile (fun _ => ?_) (fun h => by omega)
        refine QT.sw ?_
        exact hE σ τ e l hC hzσ hR
      refine QT.ite (fun _ => ?_) (fun h => absurd hC.2.1.1.1 h)
      refine QT.sw ?_
      refine QT.ile (fun h => by omega) (fun _ => ?_)
      refine QT.bnd (q_enters _ τ) (fun τ1 hτ1 => ?_)
      refine QT.sw ?_
      refine QT.bnd (a_step b t _ σ) (fun σ1 hσ1 => ?_)
      have hC1 := hC.st hσ1 hτ1
      have hR1 := hR.tre (ST.tre hC.1.1.1 hσ1 hτ1)
      have hzσ1 : ∀ j, j < mR → σ1.1 (b + 2) (8 * L + j) = z j := fun j hj => by rw [hσ1.1 (b + 2) (by omega) (by omega)]; exact hzσ j hj
      rw [a4_typeOf xR x8 σ1 (r := 6 * p + w) (j := i) (by omega) h8 (by omega) (by omega), sbnd]
      dsimp only
      have k13 := (hC1.1.1.kta 13 (by omega) (by omega)).1
      rw [k13]
      have em := mlE (k := 8) (y := x5) 8 l8 (by omega) (by omega)
      have ea := il_addE (x := 8 * x5) (y := x8) (by omega) (by omega)
      have e64 : τ.1 0 64 = τ1.1 0 64 := (hτ1.2.1 64 (by omega)).symm
      refine QT.bnd (hF xR yR u uB lev x5 x6 x8 (8 * x5 + x8) row (τ.1 0 64) L w r mW mR i x e z n0 a t1 σ1 τ1 l hL hP hlev hx5 hx6 h8 (by omega) (by omega) hrow hu huB hz hC1 hzσ1 hR1 e64) (fun s hs => ?_)
      have hs := hs rI rS (f_X11_readsRecord_43 rb rI rS M) FU
      rcases hs with ⟨f1, f2⟩ | ⟨f1, f2⟩
      · refine QT.bnd (a_stepBack b t s) (fun s2 hs2 => ?_)
        refine (ad_51 xR lev yR row hC.1.1.1 (by rw [hs2.2.1 7 (by omega)]; exact f1) n _).mono (fun z' hz' => ?_)
        exact f2.mono (fun w' hw' => .inl ⟨hz', hw'⟩)
      · refine QT.bnd (a_stepBack b t s) (fun s2 hs2 => ?_)
        intro z' ez'
        refine f2 _ (fun w' hw' => ?_)
        obtain ⟨e', l', hC2, hz2, hR2, hS2⟩ := hw'
        unfold f_X11_readsRecord_198
        have hB2 : STB w' (stI w' 0 57 (w'.1 0 57 - 1)) := STB.i
        have e9 := il_addE (x := x8) (y := 1) (by omega) (by omega)
        refine ((ih M (i + 1) (x8 + 1) s2 _ e' l' (hC2.st hs2 hB2) (fun j hj => by rw [hs2.1 (b + 2) (by omega) (by omega)]; exact hz2 j hj) (hR2.tre (ST.tre hC.1.1.1 hs2 hB2)) (by omega) (by omega)) z' ez').mono (fun v hv => hv.imp (fun h => ?_))
        obtain ⟨e3', l3, a1, a2, a3⟩ := h
        exact ⟨e3', l3, a1, a2, ((hσ1.srk.trans hS2).trans hs2.srk).trans a3⟩
/-! a field that is filled in as a record is read, both sides -/
theorem fst_choice {p : Nat} {rm : Int} {S T : ST} {d : Nat} {x y : Int32} (h : TY p rm S T (d + 1) x y) (hn : (S.1 4 1).toInt ≤ 262) : ∃ uA uB br : Int32, (∀ σ, KTA S σ → f_X5_firstChoice 4 x σ = some (uA, σ) ∧ f_X5_sortOf 4 uA σ = some (T.1 2 uB.toNatClampNeg, σ)) ∧ (∀ τ, KRB T τ → f_X11_firstOf y τ = some (uB, τ)) ∧ OWN S T x y br uA uB ∧ ((0 ≤ uB.toInt ∧ uB.toInt < 800) ∧ ¬ uA = -1) ∧ (T.1 2 uB.toNatClampNeg).toInt = FCS (T.1 2) (T.1 5) y ∧ (uB = y ∧ br = -1 ∨ ¬ uB = y ∧ br = 0) := by
  have l8 : (8 : Int32).toInt = 8 := by decide
  have lm := li_m1
  have l0 := li_0
  have hG := TG.of h
  have rg := h.rng
  have ny := nN_ rg.2.1
  by_cases e8 : (T.1 2 y.toNatClampNeg).toInt = 8
  · obtain ⟨m, hm, hM, hT, hz, hd⟩ := hG.2.2.2.2.2 e8
    obtain ⟨hT0, hn8⟩ := hT 0 (by omega)
    obtain ⟨d', hG0⟩ := TG.ex hT0
    rw [Nat.add_zero] at hG0 hn8
    have hG0 : TG p rm S T d' (S.1 16 x.toNatClampNeg) (T.1 5 (4 * y.toNatClampNeg)) := hG0
    have e4 := mlE (k := 4) (y := y) 4 li_4 (by omega) (by omega)
    have n4 : (4 * y).toNatClampNeg = 4 * y.toNatClampNeg := nC (by omega)
    refine ⟨S.1 16 x.toNatClampNeg, T.1 5 (4 * y.toNatClampNeg), 0, fun σ kv => ?_, fun τ kv => ?_, .inr ⟨e8, 0, l0, by omega, rfl, rfl⟩, ⟨hG0.1.2, fun h => ?_⟩, ?_, .inr ⟨fun e => ?_, rfl⟩⟩
    · refine ⟨?_, (hG0.rA hn kv).1⟩
      unfold f_X5_firstChoice
      rw [(hG.rA hn kv).1, sbnd]
      dsimp only
      rw [if_pos (Int32.toInt_inj.mp (e8.trans l8.symm)), (hG.rA hn kv).2, sbnd]
    · obtain ⟨e2, _, _, e5, _⟩ := kv.ty
      unfold f_X11_firstOf
      rw [if_pos (by omega), e2, e5, if_pos (Int32.toInt_inj.mp (e8.trans l8.symm)), if_pos (by omega), n4]
    · have := hG0.1.1.1
      rw [h] at this
      omega
    · unfold FCS
      rw [if_pos e8]
    · rw [e] at hn8
      exact hn8 e8
  · refine ⟨x, y, -1, fun σ kv => ?_, fun τ kv => ?_, .inl ⟨lm, rfl, rfl, e8⟩, ⟨by omega, fun h => ?_⟩, ?_, .inl ⟨rfl, rfl⟩⟩
    · refine ⟨?_, (hG.rA hn kv).1⟩
      unfold f_X5_firstChoice
      rw [(hG.rA hn kv).1, sbnd]
      dsimp only
      exact if_neg (fun e => e8 (by rw [e]; exact l8))
    · obtain ⟨e2, _, _, e5, _⟩ := kv.ty
      unfold f_X11_firstOf
      rw [if_pos (by omega), e2]
      exact if_neg (fun e => e8 (by rw [e]; exact l8))
    · rw [h] at rg
      omega
    · unfold FCS
      rw [if_neg e8]
theorem XTA.s5 {b e : Nat} {p : Int} {l m : List Nat} {σ s : ST} {v : Int32} (h : XTA b e p l m σ s) : XTA b e p l m σ (stI s (b + 5) e v) := by
  obtain ⟨h1, h2, h3, h4⟩ := h
  have hc : ∀ c, c ≠ b + 5 → (stI s (b + 5) e v).1 c = s.1 c := fun c hc => stI_ne hc
  refine ⟨fun i hi => ⟨fun k k1 k5 => ?_, (h1 i hi).2⟩, fun i hi hp => ?_, fun i hi hl => ?_, fun q hq => ?_⟩
  · by_cases e5 : k = 5
    · subst e5
      rw [stI_at, upN (by omega)]
      exact (h1 i hi).1 5 k1 k5
    · rw [hc _ (by omega)]
      exact (h1 i hi).1 k k1 k5
  · rw [hc _ (by omega), hc _ (by omega)]
    exact h2 i hi hp
  · rw [hc _ (by omega)]
    exact h3 i hi hl
  · rw [hc _ (by omega), hc _ (by omega), hc _ (by omega)]
    exact h4 q hq
theorem XTB.s27 {f : Nat} {p : Int} {l m : List Nat} {τ t : ST} {v : Int32} (h : XTB f p l m τ t) : XTB f p l m τ (stI t 27 f v) := by
  obtain ⟨⟨h1, h2, h2b⟩, h3, h4, h5⟩ := h
  have hc : ∀ c, c ≠ 27 → (stI t 27 f v).1 c = t.1 c := fun c hc => stI_ne hc
  refine ⟨⟨fun i hi => ?_, fun i hi hp => ?_, fun i hp => ?_⟩, fun i hi hp => ?_, fun i hi hl => ?_, fun q hq => ?_⟩
  · obtain ⟨g1, g2, g3, g4⟩ := h1 i hi
    refine ⟨by rw [hc 20 (by omega)]; exact g1, fun k k1 k5 => ?_, g3, g4⟩
    by_cases e5 : k = 27
    · subst e5
      rw [stI_at, upN (by omega)]
      exact g2 27 k1 k5
    · rw [hc _ e5]
      exact g2 k k1 k5
  · rw [hc 23 (by omega)]
    exact h2 i hi hp
  · rw [hc 23 (by omega)]
    exact h2b i hp
  · rw [hc 28 (by omega), hc 29 (by omega)]
    exact h3 i hi hp
  · rw [hc 30 (by omega)]
    exact h4 i hi hl
  · rw [hc 30 (by omega), hc 28 (by omega), hc 29 (by omega)]
    exact h5 q hq
theorem a_setF (b : Nat) (p0 : Int32) (σ : ST) {x : Nat} (h : p0.toInt = x) (h1 : (x : Int) < (σ.1 b 1).toInt) (h0 : (x : Int) < (σ.1 b 0).toInt) : QT (f_X7_setFilled b p0 σ) (fun s => s = stI σ (b + 5) x (vp_nar .boolean 1)) := by
  have l0 := li_0
  have n0 : p0.toNatClampNeg = x := nC h
  unfold f_X7_setFilled
  refine QT.bnd (pt_isRow b p0 σ) (fun q hq => ?_)
  obtain ⟨v, s⟩ := q
  obtain ⟨e, hv⟩ := hq
  have e : s = σ := e
  subst e
  have hv : v.toInt = 0 ∧ ¬ (0 ≤ p0.toInt ∧ p0.toInt < (s.1 b 1).toInt ∧ p0.toInt < (s.1 b 0).toInt) ∨ v.toInt = 1 ∧ 0 ≤ p0.toInt ∧ p0.toInt < (s.1 b 1).toInt ∧ p0.toInt < (s.1 b 0).toInt := hv
  dsimp only
  refine QT.ieq (fun e => ?_) (fun e => ?_)
  · omega
  · refine QT.grd (fun _ => ?_)
    rw [n0]
    exact QT.ret rfl
/-- the class's part: a row of the first choice, filled in -/
theorem a_fillIn {b t : Nat} (hb : BT b t) {S : ST} (yR x8 row uA : Int32) {N r j x : Nat} {so : Int32} {bts txt : Int64} {many : Int32} {l k : List Nat} (σ : ST) (kA : KRA b t S σ) (hr36 : r < 36) (hj8 : j < 8) (hN : N = 8 * r + j) (hy : yR.toInt = r) (h8 : x8.toInt = j) (h7 : σ.1 b 7 = 0) (h22 : σ.2.2.2 b = t) (hx : (σ.1 t 1).toInt = x) (hcap : 400 ≤ (σ.1 t 0).toInt) (hfc : f_X5_firstChoice 4 (S.1 13 N) σ = some (uA, σ)) (hso : f_X5_sortOf 4 uA σ = some (so, σ)) (hne : ¬ uA = -1) (hE : EWR so.toInt (S.2.1 14 N) bts txt many) (hpa : row.toInt = -1 ∨ 0 ≤ row.toInt ∧ row.toInt < x ∧ ((l ++ k).Nodup ∧ CN (σ.1 (t + 9)) (σ.1 (t + 7) row.toNatClampNeg) (l ++ k) ∧ (σ.1 (t + 8) row.toNatClampNeg).toInt = lz (-1) (l ++ k)) ∧ (∀ r, r ∈ l ++ k → r < x) ∧ l.length ≤ x ∧ (∀ r, r ∈ l → (σ.1 (t + 3) r).toInt < x8.toInt) ∧ (∀ r, r ∈ k → x8.toInt ≤ (σ.1 (t + 3) r).toInt)) : QT (f_X4_fillIn b t yR x8 row σ) (fun s => (¬ s.1 b 7 = 0 ∧ 400 ≤ x) ∨ (x < 400 ∧ ∃ (s2 : ST) (n : Int32), n.toInt = many.toInt ∧ GRW t x so row x8 l k σ s2 ∧ s = stI (stL (stI s2 (t + 4) x n) (t + 6) x (S.2.1 14 N)) (t + 5) x (vp_nar .boolean 1))) := by
  have hb' := hb
  unfold BT at hb'
  have l5 := li_5
  have l0 := li_0
  have k13 := (kA.kta 13 (by omega) (by omega)).1
  have k14 := (kA.kta 14 (by omega) (by omega)).2
  have h51 : ∀ n : Int32, n.toInt = many.toInt → QT (f_X4_fillIn_51 b t x8 row uA (S.2.1 14 N) n σ) (fun s => (¬ s.1 b 7 = 0 ∧ 400 ≤ x) ∨ (x < 400 ∧ ∃ (s2 : ST) (n : Int32), n.toInt = many.toInt ∧ GRW t x so row x8 l k σ s2 ∧ s = stI (stL (stI s2 (t + 4) x n) (t + 6) x (S.2.1 14 N)) (t + 5) x (vp_nar .boolean 1))) := fun n hn => by
    unfold f_X4_fillIn_51
    refine QT.grd (fun _ => ?_)
    refine QT.bnd (a_addNode hb uA row x8 n (S.2.1 14 N) so σ hne h7 h22 hx hcap hso hpa) (fun q hq => ?_)
    rcases hq with ⟨q1, q2⟩ | ⟨q1, q2, s2, g, e⟩
    · refine QT.bnd (Q := fun z => ¬ z.1 b 7 = 0) (fun z e => ?_) (fun z hz => QT.ret (.inl ⟨hz, q2⟩))
      have k : KRA b t q.2 z := wr_X7_setFilled (B0 := b) (T0 := t) (s := q.2) rfl (KRA.rf hb) z e
      exact k.nz q1
    · have e1 : (q.2.1 t 1).toInt = (x : Int) + 1 := by
        rw [e]
        show ((stI s2 (t + 4) x n).1 t 1).toInt = _
        rw [stI_ne (by omega)]
        exact g.2.1
      have e0 : 400 ≤ (q.2.1 t 0).toInt := by
        rw [e]
        show 400 ≤ ((stI s2 (t + 4) x n).1 t 0).toInt
        rw [stI_ne (by omega), g.1.2.2.2 0 (by omega)]
        exact hcap
      refine QT.bnd (a_setF t q.1 q.2 q2 (by omega) (by omega)) (fun z hz => QT.ret (.inr ⟨q1, s2, n, hn, g, ?_⟩))
      rw [hz, e]
  unfold f_X4_fillIn
  rw [a4_typeOf yR x8 σ (r := r) (j := j) hy h8 hr36 hj8, sbnd]
  dsimp only
  rw [← hN, k13, hfc, sbnd]
  dsimp only
  rw [a4_elseWorth yR x8 σ (r := r) (j := j) hy h8 hr36 hj8, sbnd]
  dsimp only
  rw [← hN, k14, hso, sbnd]
  dsimp only
  refine QT.ieq (fun e5 => ?_) (fun e5 => ?_)
  · unfold EWR at hE
    rw [if_pos (by omega)] at hE
    rw [a_lettersIn12 _ _ _ σ hE.2, sbnd]
    exact h51 many rfl
  · unfold EWR at hE
    rw [if_neg (by omega)] at hE
    exact h51 0 (by rw [hE.2.2]; exact l0)
/-- the reference's: a node of the first choice, filled in -/
theorem r_bfills (p0 p1 p2 uB br : Int32) {T τ : ST} {N x : Nat} {l k : List Nat} (kB : KRB T τ) (h0 : p0.toInt = N) (hfo : f_X11_firstOf (T.1 15 N) τ = some (uB, τ)) (hbr : uB = T.1 15 N ∧ br = -1 ∨ ¬ uB = T.1 15 N ∧ br = 0) (hx : (τ.1 0 46).toInt = x) (hpa : p1.toInt = -1 ∨ 0 ≤ p1.toInt ∧ p1.toInt < x ∧ ((l ++ k).Nodup ∧ CN (τ.1 30) (τ.1 28 p1.toNatClampNeg) (l ++ k) ∧ (τ.1 29 p1.toNatClampNeg).toInt = lz (-1) (l ++ k)) ∧ (∀ r, r ∈ l ++ k → r < x) ∧ (∀ r, r ∈ l → (τ.1 25 r).toInt < p2.toInt) ∧ (∀ r, r ∈ k → p2.toInt ≤ (τ.1 25 r).toInt)) : QT (f_X11_fills p0 p1 p2 τ) (fun w => ∃ τ1, GRB x (T.1 2 uB.toNatClampNeg) p1 p2 br l k τ τ1 ∧ w = stI (LFS τ1 x (T.2.1 17 N) (T.2.1 18 N) (if (T.1 2 uB.toNatClampNeg).toInt = 5 then T.1 19 N else 0)) 27 x (vp_nar .boolean 1)) := by
  have l5 := li_5
  have n0 : p0.toNatClampNeg = N := nC h0
  have e2 := kB.ty.1
  have e15 := kB.fl.2.2.1
  have k45 : QT (f_X11_fills_45 p0 uB br p2 p1 (T.1 2 uB.toNatClampNeg) τ) (fun w => ∃ τ1, GRB x (T.1 2 uB.toNatClampNeg) p1 p2 br l k τ τ1 ∧ w = stI (LFS τ1 x (T.2.1 17 N) (T.2.1 18 N) (if (T.1 2 uB.toNatClampNeg).toInt = 5 then T.1 19 N else 0)) 27 x (vp_nar .boolean 1)) := by
    unfold f_X11_fills_45
    refine QT.bnd (b_lays _ p1 p2 br τ hx hpa) (fun q hq => ?_)
    obtain ⟨⟨q1, q2⟩, g⟩ := hq
    have nx : q.1.toNatClampNeg = x := nC q1
    have kB1 : KRB T q.2 := kB.trans g.krb
    have L17 : q.2.2.1 17 = T.2.1 17 := kB1.2.2 17 (by omega) (by omega) (by omega)
    have L18 : q.2.2.1 18 = T.2.1 18 := kB1.2.2 18 (by omega) (by omega) (by omega)
    have c2 : q.2.1 2 = T.1 2 := kB1.ty.1
    have c19 : q.2.1 19 = T.1 19 := kB1.fl.2.2.2.2
    rw [n0, nx]
    refine QT.grd (fun _ => QT.grd (fun _ => QT.lt (fun z ez => QT.grd (fun _ => ?_))))
    have z2 : z.1 2 = T.1 2 := by rw [ez]; exact c2
    have z19 : z.1 19 = T.1 19 := by rw [ez]; exact c19
    have e18 : (stL q.2 21 x (q.2.2.1 17 N)).2.1 18 N = T.2.1 18 N := by rw [stL_ne (by omega), L18]
    have ez' : z = stL (stL q.2 21 x (T.2.1 17 N)) 22 x (T.2.1 18 N) := by rw [ez, e18, L17]
    rw [z2, z19]
    have fin : ∀ v : Int32, v = (if (T.1 2 uB.toNatClampNeg).toInt = 5 then T.1 19 N else 0) → QT (f_X11_fills_103 q.1 v q.1 z) (fun w => ∃ τ1, GRB x (T.1 2 uB.toNatClampNeg) p1 p2 br l k τ τ1 ∧ w = stI (LFS τ1 x (T.2.1 17 N) (T.2.1 18 N) (if (T.1 2 uB.toNatClampNeg).toInt = 5 then T.1 19 N else 0)) 27 x (vp_nar .boolean 1)) := fun v hv => by
      unfold f_X11_fills_103
      rw [nx]
      refine QT.grd (fun _ => QT.grd (fun _ => QT.ret ⟨q.2, g, ?_⟩))
      rw [← hv, ez']
      rfl
    refine QT.ieq (fun h5 => fin _ ?_) (fun h5 => fin _ ?_)
    · rw [if_pos (by omega)]
    · rw [if_neg (by omega)]
  unfold f_X11_fills
  rw [n0, e15]
  refine QT.grd (fun _ => ?_)
  rw [hfo, sbnd]
  dsimp only
  rw [e2]
  refine QT.grd (fun _ => ?_)
  rcases hbr with ⟨a, rfl⟩ | ⟨a, rfl⟩
  · rw [if_pos a]
    exact k45
  · rw [if_neg a]
    exact k45
/-! a field filled in: both sides -/
theorem r_fill {b t m p q : Nat} {S T : ST} (hS : RST p q S T) (hSS : RSS b t S) {L : Nat} (hL : L ≤ 30) (yR x8 row f : Int32) {r j e : Nat} {l1 l2 : List EN} {σ τ : ST} (hC : RCX b t m S T σ τ e) (hr : (r : Int) < (T.1 8 q).toInt) (hj : (j : Int) < (T.1 11 (6 * q + r)).toInt) (hy : yR.toInt = 6 * (q : Int) + r) (h8 : x8.toInt = j) (hf : f.toInt = 8 * (6 * (q : Int) + r) + j) (hel : ¬ T.1 16 (8 * (6 * q + r) + j) = 0) (hP : PARG t σ τ e e row row x8 l1 l2) : QT (f_X4_fillIn b t yR x8 row σ) (fun s => (¬ s.1 b 7 = 0 ∧ 400 ≤ e) ∨ (e < 400 ∧ QT (f_X11_fills f row x8 τ) (fun w => RVP b t m q (L + 1) S T (S.1 13 (8 * (6 * q + r) + j)) (T.1 15 (8 * (6 * q + r) + j)) e row x8 l1 l2 σ τ s w))) := by
  have hC' := hC
  obtain ⟨⟨kA, kB⟩, hR0, h1, h46, h400⟩ := hC'
  have hb := kA.1
  have hb' := hb
  unfold BT at hb'
  have l0 := li_0
  have acQ := hS.1.2.2.1.2.acc hr
  have cQ := hS.1.2.2.1.2.cnt
  have hp6 := hS.1.1
  have m8 := acQ.2.2.1.2
  obtain ⟨⟨_, _⟩, _, hTv, hEl⟩ := acQ.2.2.2.2 j hj
  have hTv : TY q (T.1 8 q).toInt S T 4 (S.1 13 (8 * (6 * q + r) + j)) (T.1 15 (8 * (6 * q + r) + j)) := hTv
  obtain ⟨N, hN⟩ : ∃ N, N = 8 * (6 * q + r) + j := ⟨_, rfl⟩
  have hEW : EWR (FCS (T.1 2) (T.1 5) (T.1 15 N)) (S.2.1 14 N) (T.2.1 17 N) (T.2.1 18 N) (T.1 19 N) ∧ 0 ≤ FCS (T.1 2) (T.1 5) (T.1 15 N) ∧ FCS (T.1 2) (T.1 5) (T.1 15 N) ≤ 6 := by
    rw [hN]
    rcases hEl with h9 | ⟨_, h9⟩
    · exact absurd (Int32.toInt_inj.mp (h9.trans l0.symm)) hel
    · exact h9
  rw [← hN] at hTv ⊢
  obtain ⟨hE, hE0, hE6⟩ := hEW
  obtain ⟨uA, uB, br, hA1, hB1, hO, ⟨huB, hne⟩, hso, hbr⟩ := fst_choice (d := 3) hTv hSS.2.2
  rw [← hso] at hE hE0 hE6
  have h22 : σ.2.2.2 b = t := by rw [kA.2.2.2.2.1]; exact hSS.1
  have hcap : 400 ≤ (σ.1 t 0).toInt := by rw [kA.2.2.1.2 0 (by omega)]; exact hSS.2.1
  obtain ⟨hfc, hsoA⟩ := hA1 σ kA.kta
  refine (a_fillIn (j := j) hb yR x8 row uA σ kA (r := 6 * q + r) (by omega) (by omega) hN (by omega) h8 hR0.1.1 h22 h1 hcap hfc hsoA hne hE hP.gA).mono (fun s hs => ?_)
  rcases hs with hs | ⟨hx4, s2, n, hn, g, es⟩
  · exact .inl hs
  · refine .inr ⟨hx4, ?_⟩
    refine (r_bfills f row x8 uB br kB (N := N) (by omega) (hB1 τ kB) hbr h46 hP.gB).mono (fun w hw => ?_)
    obtain ⟨τ1, gB, ew⟩ := hw
    obtain ⟨so, hso'⟩ : ∃ so, so = T.1 2 uB.toNatClampNeg := ⟨_, rfl⟩
    rw [← hso'] at g gB hE hE0 hE6 ew
    generalize hFL : vp_nar .boolean 1 = FL at es ew
    obtain ⟨many, hmany⟩ : ∃ many : Int32, many = (if so.toInt = 5 then T.1 19 N else 0) := ⟨_, rfl⟩
    rw [← hmany] at ew
    have hmt : n.toInt = many.toInt := by
      rw [hmany, hn]
      by_cases h5 : so.toInt = 5
      · rw [if_pos h5]
      · rw [if_neg h5]
        unfold EWR at hE
        rw [if_neg h5] at hE
        rw [hE.2.2]
        exact l0.symm
    have hE2 : EWR so.toInt (S.2.1 14 N) (T.2.1 17 N) (T.2.1 18 N) many := by
      unfold EWR at hE ⊢
      by_cases h5 : so.toInt = 5
      · rw [if_pos h5] at hE ⊢
        rw [hmany, if_pos h5]
        exact hE
      · rw [if_neg h5] at hE ⊢
        rw [hmany, if_neg h5]
        exact ⟨hE.1, hE.2.1, l0⟩
    have hlt := hP.lt
    have xA : XTA t e row.toInt (rA l1) (rA l2) σ s := by
      rw [es]
      exact (XTA.mk g SUA.set hlt.2.2.1 hlt.1).s5
    have xB : XTB e row.toInt (rB l1) (rB l2) τ w := by
      rw [ew]
      exact (XTB.mk gB SUB.set hlt.2.2.2.1 hlt.2.1).s27
    have sc : ∀ d, d ≠ t + 4 → d ≠ t + 5 → s.1 d = s2.1 d := fun d h4 h5 => by
      rw [es, stI_ne h5]
      exact stI_ne h4
    have wc : ∀ d, d ≠ 23 → d ≠ 27 → w.1 d = τ1.1 d := fun d h4 h5 => by
      rw [ew, stI_ne h5]
      exact stI_ne h4
    have a6 : s.2.1 (t + 6) e = S.2.1 14 N := by
      rw [es]
      show (stL (stI s2 (t + 4) e n) (t + 6) e (S.2.1 14 N)).2.1 (t + 6) e = _
      rw [stLA, upLA rfl]
    have a4 : s.1 (t + 4) e = n := by
      rw [es, stI_ne (by omega)]
      show (stI s2 (t + 4) e n).1 (t + 4) e = _
      rw [stI_at, upA rfl]
    have a5 : s.1 (t + 5) e = FL := by rw [es, stI_at, upA rfl]
    have b27 : w.1 27 e = FL := by rw [ew, stI_at, upA rfl]
    have b21 : w.2.1 21 e = T.2.1 17 N := by
      rw [ew]
      show (stL (stL τ1 21 e (T.2.1 17 N)) 22 e (T.2.1 18 N)).2.1 21 e = _
      rw [stL_ne (by omega), stLA, upLA rfl]
    have b22 : w.2.1 22 e = T.2.1 18 N := by
      rw [ew]
      show (stL (stL τ1 21 e (T.2.1 17 N)) 22 e (T.2.1 18 N)).2.1 22 e = _
      rw [stLA, upLA rfl]
    have b23 : w.1 23 e = many := by
      rw [ew, stI_ne (by omega)]
      show (stI (stL (stL τ1 21 e (T.2.1 17 N)) 22 e (T.2.1 18 N)) 23 e many).1 23 e = _
      rw [stI_at, upA rfl]
    have ks : KRA b t σ s := by
      rw [es]
      exact ((g.kra hb).trans (set_kra hb)).i (.inr (.inr (.inr ⟨by omega, by omega⟩)))
    have kw : KRB τ w := by
      rw [ew]
      exact (gB.krb.trans lfs_krb).i (by omega)
    have hRz : RPS b m s w := by
      have hR1 := hR0.lays gB
      unfold RPS at hR1 ⊢
      rw [sc b (by omega) (by omega), sc 38 (by omega) (by omega), wc 0 (by omega) (by omega), wc 34 (by omega) (by omega), g.1.1 b (by omega), g.1.1 38 (by omega)]
      exact hR1
    have hCz : RCX b t m S T s w (e + 1) := by
      refine ⟨⟨kA.trans ks, kB.trans kw⟩, hRz, ?_, ?_, by omega⟩
      · rw [sc t (by omega) (by omega), g.2.1]
        omega
      · rw [wc 0 (by omega) (by omega), gB.2.1]
        omega
    have b20 : w.1 20 e = so := by rw [wc 20 (by omega) (by omega)]; exact gB.2.2.1.1.1
    have b26 : w.1 26 e = br := by rw [wc 26 (by omega) (by omega)]; exact gB.2.2.1.2.2.1.1
    have a1 : s.1 (t + 1) e = so := by rw [sc _ (by omega) (by omega)]; exact g.2.2.1.1
    refine ⟨e + 1, hCz, by omega, ?_, ⟨⟨?_, ?_⟩, ⟨?_, ?_⟩, by rw [a5, b27]⟩, ⟨xA, xB⟩, fun i _ => ?_⟩
    · rw [show 32 - (L + 1) = (30 - L) + 1 by omega]
      refine ⟨⟨by show e < e + 1; omega, by show e < e + 1; omega⟩, uA, uB, ?_, ⟨⟨?_, ?_⟩, ?_⟩, fun h => ?_, fun h => ?_, fun h => ?_, fun h => ?_⟩
      · show OWN S T _ _ (w.1 26 e) uA uB
        rw [b26]
        exact hO
      · exact hso'.symm.trans b20.symm
      · exact a1.trans b20.symm
      · show 0 ≤ (w.1 20 e).toInt ∧ (w.1 20 e).toInt ≤ 7
        rw [b20]
        omega
      · refine ⟨?_, rfl⟩
        show LEAF t s w e e
        unfold LEAF
        rw [sc (t + 7) (by omega) (by omega), wc 28 (by omega) (by omega), b20, a6, b21, b22, b23, a4]
        exact ⟨⟨g.2.2.2.2.1.1, gB.2.2.2.2.1.1⟩, hE2, hmt⟩
      · have h : 6 ≤ (w.1 20 e).toInt := h
        rw [b20] at h
        show s.2.1 (t + 6) e = w.2.1 21 e ∧ w.2.1 22 e = 0
        unfold EWR at hE2
        rw [if_neg (by omega)] at hE2
        rw [a6, b21, b22]
        exact ⟨hE2.1, hE2.2.1⟩
      · have h : (w.1 20 e).toInt = 6 := h
        rw [b20] at h
        unfold EWR at hE2
        rw [if_neg (by omega)] at hE2
        refine ⟨[], rfl, by show 0 ≤ 200; omega, ?_, ⟨⟨⟨?_, ?_⟩, ?_, ?_⟩, ⟨List.Pairwise.nil, List.Pairwise.nil⟩, ⟨?_, ?_⟩, fun y hy => (by cases hy)⟩⟩
        · show (s.1 (t + 4) e).toInt = ((0 : Nat) : Int)
          rw [a4]
          omega
        · show (s.1 (t + 7) e).toInt = -1
          rw [sc (t + 7) (by omega) (by omega)]
          exact g.2.2.2.2.1.1
        · show (s.1 (t + 8) e).toInt = -1
          rw [sc (t + 8) (by omega) (by omega)]
          exact g.2.2.2.2.1.2
        · show (w.1 28 e).toInt = -1
          rw [wc 28 (by omega) (by omega)]
          exact gB.2.2.2.2.1.1
        · show (w.1 29 e).toInt = -1
          rw [wc 29 (by omega) (by omega)]
          exact gB.2.2.2.2.1.2
        · show (w.1 23 e).toInt = ((0 : Nat) : Int)
          rw [b23]
          omega
        · refine ⟨?_, rfl⟩
          show 0 + e < e + 1
          omega
      · have h : (w.1 20 e).toInt = 7 := h
        rw [b20] at h
        omega
    · rw [sc _ (by omega) (by omega)]
      exact g.2.2.1.2.1
    · rw [sc _ (by omega) (by omega)]
      exact g.2.2.1.2.2.1
    · rw [wc 24 (by omega) (by omega)]
      exact gB.2.2.1.2.1.1
    · rw [wc 25 (by omega) (by omega)]
      exact gB.2.2.1.2.1.2
    · rw [sc (b + 2) (by omega) (by omega), g.1.1 (b + 2) (by omega)]
/-! a record that the reader wants, both sides -/
def PLF (z : Nat → Int32) (mR j : Nat) (k : Nat) : Prop := k < mR ∧ (0 ≤ (z k).toInt ∨ k < j)
theorem SRJ.sgn {T : ST} {p q w r mW j : Nat} {wi z : Int32} (h : SRJ T p q w r mW wi j z) (hb : 8 * (6 * (q : Int) + r) + j < 2000000000) : z.toInt = -1 ∨ ∃ i : Nat, i < mW ∧ z.toInt = i := by
  obtain ⟨y, _, h | ⟨i, h1, h2, _⟩⟩ := h (Int32.ofInt (8 * (6 * (q : Int) + r) + j)) (Int32.toInt_ofInt_of_le (by omega) (by omega))
  · exact .inl h.1
  · exact .inr ⟨i, h1, h2⟩
theorem r_fills {b t m p q : Nat} {S T : ST} {rT rF rL rO rR : FTK} {rb : FRD} {rI rS : Int32 → Int32 → Int32 → Int32 → ST → Option (Int32 × ST)} (hS : RST p q S T) (hSS : RSS b t S) {L : Nat} (hL : L ≤ 30) (xR yR u uB lev x6 row : Int32) {w r mW mR x : Nat} (hP : RPR p q T xR yR u uB w r mW mR) (hlev : lev.toInt = L) (hx6 : x6.toInt = 6 * (q : Int) + r) (hrow : row.toInt = x) (hu : 0 ≤ u.toInt ∧ u.toInt < 800) (huB : 0 ≤ uB.toInt ∧ uB.toInt < 800) (z : Nat → Int32) (hz : ∀ j, j < mR → SRJ T p q w r mW (T.1 3 u.toNatClampNeg) j (z j)) (n0 : Int32) (a t1 : ST) : ∀ (n M j : Nat) (x8 : Int32) (σ τ : ST) (e : Nat) (l : List EN), RCX b t m S T σ τ e → (∀ j, j < mR → σ.1 (b + 2) (8 * L + j) = z j) → RLR t q S T L (6 * q + r) x n0 a t1 (PLF z mR j) σ τ e l → x8.toInt = j → j ≤ mR → QT (f_X4_takeRecord_112 rT rF rL rO rR b t n lev yR row x8 σ) (fun s => QT (f_X11_readsRecord_217 rb rI rS M u uB row x6 x8 τ) (ROUT b (RND b t m q S T L (6 * q + r) x mR n0 a t1 σ) s)) := by
  have l0 := li_0
  have l1 := li_1
  have lm := li_m1
  have l8 := li_8
  have l400 := li_400
  have hP' := hP
  obtain ⟨⟨hx, hy⟩, ⟨hw, hr⟩, ⟨hu3, huB3⟩, ⟨hmW, hmR⟩, hPR⟩ := hP'
  have acP := hS.1.2.2.1.1.acc hw
  have acQ := hS.1.2.2.1.2.acc hr
  have cP := hS.1.2.2.1.1.cnt
  have cQ := hS.1.2.2.1.2.cnt
  have hp6 := hS.1.1
  have mR8 : mR ≤ 8 := by
    have := acQ.2.2.1.2
    rw [hmR] at this
    omega
  have n6 : x6.toNatClampNeg = 6 * q + r := nC (by omega)
  intro n
  induction n with
  | zero =>
    intro M j x8 σ τ e l _ _ _ _ _
    rw [f_X4_takeRecord_112]
    exact QT.none
  | succ n ih =>
    intro M j x8 σ τ e l hC hzσ hR h8 hj
    cases M with
    | zero =>
      refine fun s _ => ?_
      rw [f_X11_readsRecord_217]
      exact QT.none
    | succ M =>
      have k7 := (hC.1.1.kta 7 (by omega) (by omega)).1
      have e11 := hC.1.2.fl.2.1
      have e3 : τ.1 3 = T.1 3 := hC.1.2.ty.2.1
      have hm : (σ.1 7 (6 * q + r)).toInt = mR := by rw [k7, acQ.2.1]; exact hmR
      rw [f_X4_takeRecord_112, f_X11_readsRecord_217, a4_fieldsOf yR σ (r := 6 * q + r) (by omega) (by omega), sbnd]
      dsimp only
      rw [if_neg (fun h => by have := il_lt h; omega : ¬ uB < 0), if_pos (⟨by omega, by omega⟩ : 0 ≤ x6.toInt ∧ x6.toInt < 72), n6, e11]
      refine QT.ile (fun hle => QT.ret ?_) (fun hlt => ?_)
      · refine QT.ile (fun _ => QT.ret (.inr ⟨rfl, e, l, hC, hR.iff (fun k => ?_), SRK.rf⟩)) (fun h => by omega)
        unfold PLF
        omega
      have hjm : j < mR := by omega
      have hlt' : ¬ T.1 11 (6 * q + r) ≤ x8 := fun h => by have := il_le h; omega
      rw [if_neg hlt', if_pos hu]
      refine QT.ite (fun _ => ?_) (fun h => absurd hC.2.1.1.1 h)
      rw [a_sourceAt b t lev x8 σ hL hlev h8 (by omega), sbnd]
      dsimp only
      rw [hzσ j hjm]
      have em := mlE (k := 8) (y := x6) 8 l8 (by omega) (by omega)
      have ea := il_addE (x := 8 * x6) (y := x8) (by omega) (by omega)
      have na : (8 * x6 + x8).toNatClampNeg = 8 * (6 * q + r) + j := nC (by omega)
      have hf : (8 * x6 + x8).toInt = 8 * (6 * (q : Int) + r) + j := by omega
      obtain ⟨y, y1, y2⟩ := hz j hjm (8 * x6 + x8) hf
      rw [e3, hC.1.2.ff' y1, sbnd]
      dsimp only
      have e9 := il_addE (x := x8) (y := 1) (by omega) (by omega)
      unfold f_X4_takeRecord_155 f_X11_readsRecord_286
      rcases y2 with ⟨g1, g2⟩ | ⟨i, g0, g1, g2⟩
      · -- it is filled in
        have hnP : ¬ PLF z mR j j := fun h => by
          unfold PLF at h
          omega
        obtain ⟨l1, l2, ell, k1, k2, hPar⟩ := hR.split hnP (by omega) hrow h8
        have hel : ¬ T.1 16 (8 * (6 * q + r) + j) = 0 := by
          have e53 := hS.1.2.1.1
          have e54 := hS.1.2.1.2
          have n54 : (T.1 0 54).toNatClampNeg = q := nC e54
          have wn : (T.1 3 u.toNatClampNeg).toNatClampNeg = w := nC hu3
          have rn : (T.1 3 uB.toNatClampNeg).toNatClampNeg = r := nC huB3
          obtain ⟨_, _, hx9⟩ := hS.2.2.2.2.1 (T.1 3 u.toNatClampNeg) (T.1 3 uB.toNatClampNeg) (by omega) (by omega) (by omega) (by omega) (by rw [wn, rn]; exact hPR)
          have hk := (hx9 j (8 * x6 + x8) y (by rw [n54, rn, hmR]; omega) (by omega) y1).2 (by omega)
          rw [na] at hk
          exact hk
        subst ell
        refine QT.ieq (fun _ => ?_) (fun h => by omega)
        refine QT.bnd (r_fill (p := p) hS hSS hL yR x8 row (8 * x6 + x8) hC hr (by rw [hmR]; omega) hy h8 hf hel hPar) (fun s hs => ?_)
        refine QT.sw ?_
        refine QT.ile (fun h => by omega) (fun _ => ?_)
        rcases hs with ⟨f1, f2⟩ | ⟨f1, f2⟩
        · have e46 := hC.2.2.2.1
          have e400 := hC.2.2.2.2
          refine QT.ieq (fun _ => ?_) (fun h => by omega)
          refine QT.bnd (q_fails _ _ _) (fun v hv => QT.grd (fun _ => QT.ret ?_))
          have stop : QT (f_X4_takeRecord_112 rT rF rL rO rR b t n lev yR row (x8 + 1) s) (fun s => ¬ s.1 b 7 = 0) := by
            cases n with
            | zero =>
              rw [f_X4_takeRecord_112]
              exact QT.none
            | succ n =>
              rw [f_X4_takeRecord_112]
              refine QT.bnd (Q := fun z => ¬ z.2.1 b 7 = 0) (fun z e => ?_) (fun z hz => ?_)
              · have k : KRA b t s z.2 := wr_X5_fieldsOf (B0 := b) (T0 := t) (s := s) (KRA.rf hC.1.1.1) z e
                exact k.nz f1
              · exact QT.ite (fun _ => QT.ret hz) (fun _ => QT.ite (fun e => absurd e hz) (fun _ => QT.ret hz))
          exact stop.mono (fun z' hz' => .inl ⟨hz', hv⟩)
        · have e46 := hC.2.2.2.1
          refine QT.ieq (fun h => by omega) (fun _ => ?_)
          refine QT.bnd f2 (fun w' hw' => ?_)
          refine QT.sw ?_
          have hlen := hR.len (m := 8) (fun j h => by have := h.1; omega)
          obtain ⟨e', hC2, hR2, hS2⟩ := hR.add k1 k2 hrow h8 hL (by omega) hw'
          have hR3 : RLR t q S T L (6 * q + r) x n0 a t1 (PLF z mR (j + 1)) s w' e' _ := hR2.iff (fun k => by
            unfold PLF
            constructor
            · rintro (h | h)
              · omega
              · omega
            · intro h
              by_cases e9 : k = j
              · exact .inr e9
              · exact .inl (by omega))
          refine QT.sw ?_
          refine QT.sw ?_
          exact (ih M (j + 1) (x8 + 1) s w' e' _ hC2 (fun j hj => (hS2 _ (by omega)).trans (hzσ j hj)) hR3 (by omega) (by omega)).mono2 (fun z' v hv => hv.imp (fun h => by
            obtain ⟨e3', l3, a1, a2, a3⟩ := h
            exact ⟨e3', l3, a1, a2, (hS2.wk (by omega)).trans a3⟩))
      · refine QT.ieq (fun h => by omega) (fun _ => ?_)
        refine QT.sw ?_
        refine QT.ile (fun _ => ?_) (fun h => by omega)
        refine QT.sw ?_
        have hR3 : RLR t q S T L (6 * q + r) x n0 a t1 (PLF z mR (j + 1)) σ τ e l := hR.iff (fun k => by
          unfold PLF
          constructor
          · intro h
            omega
          · intro h
            by_cases e9 : k = j
            · subst e9
              omega
            · omega)
        exact ih M (j + 1) (x8 + 1) σ τ e l hC hzσ hR3 (by omega) (by omega)
theorem r_recn {b t m p q : Nat} {S T : ST} {rT rF rL rO rR : FTK} {rb : FRD} {rI rS : Int32 → Int32 → Int32 → Int32 → ST → Option (Int32 × ST)} (hS : RST p q S T) (hSS : RSS b t S) (hF : cFLN b t m p q S T rF rb) {L : Nat} (hL : L ≤ 30) {tA tB uA uB so br : Int32} {x : Nat} {pa pl : Int32} {l k : List EN} {σ τ τ1 : ST} (hP : PARG t σ τ x x pa pa pl l k) (hC : RCX b t m S T σ τ x) (hx4 : x < 400) (xR u lev xB : Int32) (gB : GRB x so pa pl br (rB l) (rB k) τ τ1) (hxB : xB.toInt = x) (hlev : lev.toInt = L) {w r mW mR : Nat} (hRP : RPR p q T xR (S.1 16 uA.toNatClampNeg) u uB w r mW mR) (hu : 0 ≤ u.toInt ∧ u.toInt < 800) (huB : 0 ≤ uB.toInt ∧ uB.toInt < 800) (hso : T.1 2 uB.toNatClampNeg = so) (hso7 : so.toInt = 7) (hne : ¬ uA = -1) (hGA : ∀ z, KRA b t S z → f_X5_sortOf 4 uA z = some (so, z)) (hGI : ∀ z, KRA b t S z → f_X5_innerOf 4 uA z = some (S.1 16 uA.toNatClampNeg, z)) (hO : OWN S T tA tB br uA uB) : QT (f_X4_takeRecord rT rF rL rO rR b t xR uA pa pl lev σ) (fun s => QT (f_X11_readsRecord rb rI rS u uB lev xB τ1) (ROUT b (RVP b t m q L S T tA tB x pa pl l k σ τ) s)) := by
  have hC' := hC
  obtain ⟨⟨kA, kB⟩, hR0, h1, h46, _⟩ := hC'
  have hb := kA.1
  have hb' := hb
  unfold BT at hb'
  have l0 := li_0
  have l6 := li_6
  have hRP' := hRP
  obtain ⟨⟨hx, hy⟩, ⟨hw, hr⟩, ⟨hu3, huB3⟩, ⟨hmW, hmR⟩, hPR⟩ := hRP'
  have acQ := hS.1.2.2.1.2.acc hr
  have cP := hS.1.2.2.1.1.cnt
  have cQ := hS.1.2.2.1.2.cnt
  have hp6 := hS.1.1
  have mR8 : mR ≤ 8 := by
    have := acQ.2.2.1.2
    rw [hmR] at this
    omega
  have k7 := (kA.kta 7 (by omega) (by omega)).1
  obtain ⟨n0, hn0⟩ : ∃ n0, n0 = σ.1 7 (6 * q + r) := ⟨_, rfl⟩
  have hnm : n0.toInt = mR := by rw [hn0, k7, acQ.2.1]; exact hmR
  unfold f_X4_takeRecord f_X4_takeRecord_17 f_X11_readsRecord f_X11_readsRecord_38
  refine QT.ite (fun h => absurd h hne) (fun _ => ?_)
  rw [hGI σ kA, sbnd]
  dsimp only
  rw [a4_fieldsOf (S.1 16 uA.toNatClampNeg) σ (r := 6 * q + r) (by omega) (by omega), sbnd]
  dsimp only
  rw [← hn0]
  have h22 : σ.2.2.2 b = t := by rw [kA.2.2.2.2.1]; exact hSS.1
  have hcap : 400 ≤ (σ.1 t 0).toInt := by rw [kA.2.2.1.2 0 (by omega)]; exact hSS.2.1
  refine QT.bnd (a_addNode hb uA pa pl n0 0 so σ hne hR0.1.1 h22 h1 hcap (hGA σ kA) hP.gA) (fun qz hq => ?_)
  rcases hq with ⟨_, h2⟩ | ⟨_, hq1, s2, g, e⟩
  · omega
  obtain ⟨row, z⟩ := qz
  have hq1 : row.toInt = x := hq1
  have erow : row = xB := Int32.toInt_inj.mp (by omega)
  subst erow
  have hz : stL (stI s2 (t + 4) x n0) (t + 6) x 0 = z := e.symm
  have zc : ∀ d, d ≠ t + 4 → z.1 d = s2.1 d := fun d hd => by rw [← hz]; exact stI_ne hd
  have sA : SUA t x s2 z := by rw [← hz]; exact SUA.set
  have kz : KRA b t s2 z := by rw [← hz]; exact set_kra hb
  have kAz : KRA b t S z := kA.trans ((g.kra hb).trans kz)
  have a6 : z.2.1 (t + 6) x = 0 := by rw [← hz, stLA, upLA rfl]
  have a4 : z.1 (t + 4) x = n0 := by
    rw [← hz]
    show (stI s2 (t + 4) x n0).1 (t + 4) x = _
    rw [stI_at, upA rfl]
  have hRz : RPS b m z τ1 := by
    have hR1 := hR0.lays gB
    unfold RPS at hR1 ⊢
    rw [zc b (by omega), zc 38 (by omega), g.1.1 b (by omega), g.1.1 38 (by omega)]
    exact hR1
  have hCz : RCX b t m S T z τ1 (x + 1) := by
    refine ⟨⟨kAz, kB.trans gB.krb⟩, hRz, ?_, ?_, by omega⟩
    · rw [zc t (by omega), g.2.1]
      omega
    · rw [gB.2.1]
      omega
  have hSz : SRK b L σ z := fun i _ => by rw [zc (b + 2) (by omega), g.1.1 (b + 2) (by omega)]
  clear hz e
  dsimp only
  refine QT.bnd (a_findSources hS hSS.2.2 hRP hL hlev z hCz) (fun z2 hz2 => ?_)
  obtain ⟨hC2, hFS, hsrc⟩ := hz2
  obtain ⟨zf, hzf⟩ : ∃ zf : Nat → Int32, zf = fun j => z2.1 (b + 2) (8 * L + j) := ⟨_, rfl⟩
  have hz' : ∀ j, j < mR → SRJ T p q w r mW (T.1 3 u.toNatClampNeg) j (zf j) := fun j hj => by
    rw [hzf]
    exact hsrc j hj
  have hzσ : ∀ j, j < mR → z2.1 (b + 2) (8 * L + j) = zf j := fun j _ => by rw [hzf]
  have hT2 := hFS.tre (τ := τ1) hb
  have kB1 : KRB T τ1 := kB.trans gB.krb
  have e53 : (τ1.1 0 53).toInt = p := by rw [kB1.2.1 53 (by omega) (by omega) (by omega) (by omega) (by omega) (by omega) (by omega)]; exact hS.1.2.1.1
  have e54 : (τ1.1 0 54).toInt = q := by rw [kB1.2.1 54 (by omega) (by omega) (by omega) (by omega) (by omega) (by omega) (by omega)]; exact hS.1.2.1.2
  have e3 : τ1.1 3 = T.1 3 := kB1.ty.2.1
  refine QT.sw ?_
  refine QT.grd (fun _ => ?_)
  refine QT.ile (fun _ => ?_) (fun h => by omega)
  refine QT.grd (fun _ => ?_)
  refine QT.sw ?_
  rw [e3]
  have em1 := mlE (k := 6) (y := τ1.1 0 53) 6 l6 (by omega) (by omega)
  have em2 := mlE (k := 6) (y := τ1.1 0 54) 6 l6 (by omega) (by omega)
  have ea1 := il_addE (x := 6 * τ1.1 0 53) (y := T.1 3 u.toNatClampNeg) (by omega) (by omega)
  have ea2 := il_addE (x := 6 * τ1.1 0 54) (y := T.1 3 uB.toNatClampNeg) (by omega) (by omega)
  have c7 : ∀ d, t + 1 ≤ d → d ≤ t + 9 → z2.1 d = z.1 d := hT2.1
  have hI0 : RLR t q S T L (6 * q + r) x n0 z2 τ1 (PLJ zf mR 0 0) z2 τ1 (x + 1) [] := by
    refine ⟨by omega, ⟨SUA.rf, SUB.rf⟩, fun j => ⟨fun ⟨y, hy, _⟩ => (by cases hy), fun h => ?_⟩, ⟨⟨⟨?_, ?_⟩, ?_, ?_⟩, ⟨List.Pairwise.nil, List.Pairwise.nil⟩, ⟨?_, ?_⟩, fun y hy => (by cases hy)⟩, ⟨?_, ?_⟩, ⟨?_, ?_⟩, ?_⟩
    · exfalso
      unfold PLJ at h
      omega
    · show (z2.1 (t + 7) x).toInt = -1
      rw [c7 (t + 7) (by omega) (by omega), zc (t + 7) (by omega)]
      exact g.2.2.2.2.1.1
    · show (z2.1 (t + 8) x).toInt = -1
      rw [c7 (t + 8) (by omega) (by omega), zc (t + 8) (by omega)]
      exact g.2.2.2.2.1.2
    · exact gB.2.2.2.2.1.1
    · exact gB.2.2.2.2.1.2
    · show (τ1.1 23 x).toInt = ((0 : Nat) : Int)
      rw [gB.2.2.1.1.2]
      exact l0
    · refine ⟨?_, rfl⟩
      show 0 + x < x + 1
      omega
    · rw [c7 (t + 4) (by omega) (by omega)]
      exact a4
    · rw [hFS.2.2]
      exact a6
    · exact gB.2.2.1.2.2.2.1
    · exact gB.2.2.1.2.2.2.2
    · rw [gB.2.2.1.1.1]
      exact hso7
  have hE : ∀ (σ τ : ST) (e : Nat) (l : List EN), RCX b t m S T σ τ e → (∀ j, j < mR → σ.1 (b + 2) (8 * L + j) = zf j) → RLR t q S T L (6 * q + r) x n0 z2 τ1 (PLJ zf mR mW 0) σ τ e l → QT (f_X4_takeRecord_109 rT rF rL rO rR b t lev (S.1 16 uA.toNatClampNeg) row σ) (fun s => QT (f_X11_readsRecord_217 rb rI rS FU u uB row (6 * τ1.1 0 54 + T.1 3 uB.toNatClampNeg) 0 τ) (ROUT b (RND b t m q S T L (6 * q + r) x mR n0 z2 τ1 σ) s)) := fun σ' τ' e l hC' hz9 hR' => by
    unfold f_X4_takeRecord_109
    refine r_fills hS hSS hL xR _ u uB lev _ row hRP hlev (by omega) hq1 hu huB zf hz' n0 z2 τ1 FU FU 0 0 σ' τ' e l hC' hz9 (hR'.iff (fun k => ?_)) l0 (by omega)
    unfold PLJ PLF
    constructor
    · intro h
      omega
    · intro h
      rcases (hz' k h.1).sgn (by omega) with h9 | ⟨i, i1, i2⟩
      · omega
      · omega
  refine (r_fldsn hS hF hL xR _ u uB lev _ _ row hRP hlev (by omega) (by omega) hq1 hu huB zf hz' n0 z2 τ1 hE FU FU 0 0 z2 τ1 (x + 1) [] hC2 hzσ hI0 l0 (by omega)).mono2 (fun s v hv => hv.imp (fun h => ?_))
  obtain ⟨e', l', hCe, ⟨i1, ⟨i2, i3⟩, i4, i5, ⟨i6, i7⟩, ⟨i8, i9⟩, i10⟩, hSe⟩ := h
  have sA' := (sA.trans (hT2.sua x)).trans i2
  have hmem : l'.map (fun y => y.1) = List.range mR := by
    rw [List.range_eq_range']
    refine rg_list mR 0 _ i5.2.1.2 (fun i hi => ?_) (fun j _ hj => ?_)
    · obtain ⟨y, hy, e9⟩ := List.mem_map.mp hi
      have := (i4 i).mp ⟨y, hy, e9⟩
      exact ⟨by omega, by omega⟩
    · obtain ⟨y, hy, e9⟩ := (i4 j).mpr (by omega)
      exact List.mem_map.mpr ⟨y, hy, e9⟩
  have hV : VAL True t q S T s v.2 (32 - L) tA tB (x, e') (x, e') := by
    rw [show 32 - L = (31 - L) + 1 by omega]
    have b20 : v.2.1 20 x = so := (i3.2.2.1).trans gB.2.2.1.1.1
    have b26 : v.2.1 26 x = br := (i3.2.2.2 26 (by omega) (by omega)).trans gB.2.2.1.2.2.1.1
    have a1 : s.1 (t + 1) x = so := (sA'.2.2.1).trans g.2.2.1.1
    refine ⟨⟨i1, i1⟩, uA, uB, ?_, ⟨⟨?_, ?_⟩, ?_⟩, fun h => ?_, fun _ => ?_, fun h => ?_, fun _ => ?_⟩
    · show OWN S T tA tB (v.2.1 26 x) uA uB
      rw [b26]
      exact hO
    · exact hso.trans b20.symm
    · exact a1.trans b20.symm
    · show 0 ≤ (v.2.1 20 x).toInt ∧ (v.2.1 20 x).toInt ≤ 7
      rw [b20]
      omega
    · have h : (v.2.1 20 x).toInt ≤ 5 := h
      rw [b20] at h
      omega
    · show s.2.1 (t + 6) x = v.2.2.1 21 x ∧ v.2.2.1 22 x = 0
      rw [i7, i8, i9]
      exact ⟨rfl, rfl⟩
    · have h : (v.2.1 20 x).toInt = 6 := h
      rw [b20] at h
      omega
    · refine ⟨6 * q + r, mR, l', ⟨by omega, by omega, hmR⟩, hmem, fun _ => ⟨?_, fun y hy => (i5.2.2.2 y hy).2.2.1.1⟩, ?_⟩
      · show (s.1 (t + 4) x).toInt = mR
        rw [i6]
        exact hnm
      · obtain ⟨j1, j2, j3, j4⟩ := i5
        exact ⟨j1, j2, j3, fun y hy => ⟨(j4 y hy).1, (j4 y hy).2.1, .inl (j4 y hy).2.2⟩⟩
  exact r_kid hP g gB sA' i3 hCe i1 hV ((hSz.trans hFS.2.1).trans hSe)
/-! what reading bytes leaves alone (wip/st5/frames9.py); a tree that is full -/
def KBY (B0 : Nat) (s σ : ST) : Prop := (∀ c, c ≠ B0 → σ.1 c = s.1 c) ∧ (∀ i, i ≠ 5 → i ≠ 7 → i ≠ 8 → i ≠ 10 → σ.1 B0 i = s.1 B0 i) ∧ σ.2 = s.2
theorem KBY.rf {B0 : Nat} {s : ST} : KBY B0 s s := ⟨fun _ _ => rfl, fun _ _ _ _ _ => rfl, rfl⟩
theorem KBY.i {B0 : Nat} {s σ : ST} {c i : Nat} {v : Int32} (hc : c = B0 ∧ (i = 5 ∨ i = 7 ∨ i = 8 ∨ i = 10)) (h : KBY B0 s σ) : KBY B0 s (stI σ c i v) := by
  obtain ⟨hc, hi⟩ := hc
  subst hc
  refine ⟨fun d hd => (stI_ne hd).trans (h.1 d hd), fun j a b d e => ?_, h.2.2⟩
  rw [stI_at, upN (by omega)]
  exact h.2.1 j a b d e
theorem wb_X4_fail {B0 : Nat} {s : ST} {b : Nat} {t : Nat} {p0 : Int32} {p1 : Int32} {σ : ST} (h_b : B0 = b) (h : KBY B0 s σ) : PF st0 (KBY B0 s) (f_X4_fail b t p0 p1 σ) := by
  subst h_b
  have k : KBY B0 s (stI (stI σ B0 7 p0) B0 8 p1) := KBY.i ⟨rfl, .inr (.inr (.inl rfl))⟩ (h.i ⟨rfl, .inr (.inl rfl)⟩)
  unfold f_X4_fail f_X4_fail_29
  exact PF.ite (fun _ => PF.ite (fun _ => PF.ret0 (k.i ⟨rfl, .inr (.inr (.inr rfl))⟩)) (fun _ => PF.ite (fun _ => PF.ret0 (k.i ⟨rfl, .inr (.inr (.inr rfl))⟩)) (fun _ => PF.ret0 k))) (fun _ => PF.ret0 h)
theorem wb_X4_takeNumber_70 {B0 : Nat} {s : ST} {b : Nat} {t : Nat} {x2 : Int64} {σ : ST}   (h : KBY B0 s σ) : PF st1 (KBY B0 s) (f_X4_takeNumber_70 b t x2 σ) := by
  unfold f_X4_takeNumber_70
  exact (PF.ite (fun _ => (PF.ret1 h)) (fun _ => (PF.ret1 h)))
theorem wb_X1_byteOf {B0 : Nat} {s : ST} {p0 : Int32} {p1 : Int32} {σ : ST}   (h : KBY B0 s σ) : PF st1 (KBY B0 s) (f_X1_byteOf p0 p1 σ) := by
  unfold f_X1_byteOf
  exact (PF.ite (fun _ => (PF.ret1 h)) (fun _ => (PF.ite (fun _ => (PF.ret1 h)) (fun _ => (PF.ite (fun _ => (PF.ret1 h)) (fun _ => PF.none))))))
theorem wb_X4_takeByte {B0 : Nat} {s : ST} {b : Nat} {t : Nat} {σ : ST}  (h_b : B0 = b) (h : KBY B0 s σ) : PF st1 (KBY B0 s) (f_X4_takeByte b t σ) := by
  unfold f_X4_takeByte
  exact (PF.ite (fun _ => (PF.ite (fun _ => (PF.bnd (wb_X1_byteOf  h) (fun q1 hq1 => (PF.ret1 (KBY.i (by omega) hq1))))) (fun _ => (PF.bnd (wb_X4_fail (by omega) h) (fun q3 hq3 => (PF.ret1 hq3)))))) (fun _ => (PF.ret1 h)))
theorem wb_X4_takeNumber_38 {B0 : Nat} {s : ST} {k5 : Int32 → Int64 → Int32 → ST → Option (Int64 × ST)} {b : Nat} {t : Nat} {x1 : Int32} {x2 : Int64} {x4 : Int32} {x5 : Int32} {σ : ST} (h_k5 : ∀ (x1 : Int32) (x2 : Int64) (x3 : Int32) (σ : ST), KBY B0 s σ → PF st1 (KBY B0 s) (k5 x1 x2 x3 σ))  (h : KBY B0 s σ) : PF st1 (KBY B0 s) (f_X4_takeNumber_38 k5 b t x1 x2 x4 x5 σ) := by
  unfold f_X4_takeNumber_38
  exact (PF.ite (fun _ => (h_k5 _ _ _ _ h)) (fun _ => (wb_X4_takeNumber_70  h)))
theorem wb_X4_takeNumber_5 {B0 : Nat} {s : ST} {b : Nat} {t : Nat}  (h_b : B0 = b) : ∀ (n : Nat) (x1 : Int32) (x2 : Int64) (x3 : Int32) (σ : ST), KBY B0 s σ → PF st1 (KBY B0 s) (f_X4_takeNumber_5 b t n x1 x2 x3 σ) := by
  intro n
  induction n with
  | zero => intro x1 x2 x3 σ h; rw [f_X4_takeNumber_5]; exact PF.none
  | succ n ih =>
    intro x1 x2 x3 σ h
    rw [f_X4_takeNumber_5]
    exact (PF.ite (fun _ => (wb_X4_takeNumber_70  h)) (fun _ => (PF.bnd (wb_X4_takeByte (by omega) h) (fun q1 hq1 => (PF.ite (fun _ => (PF.ite (fun _ => (wb_X4_takeNumber_38 ih hq1)) (fun _ => (PF.bnd (wb_X4_fail (by omega) hq1) (fun q3 hq3 => (wb_X4_takeNumber_38 ih hq3)))))) (fun _ => (wb_X4_takeNumber_38 ih hq1)))))))
theorem wb_X4_takeNumber {B0 : Nat} {s : ST} {b : Nat} {t : Nat} {p0 : Int32} {σ : ST}  (h_b : B0 = b) (h : KBY B0 s σ) : PF st1 (KBY B0 s) (f_X4_takeNumber b t p0 σ) := by
  unfold f_X4_takeNumber
  exact (wb_X4_takeNumber_5 (by omega) _ _ _ _ _ h)
theorem wb_X4_takeReal_44 {B0 : Nat} {s : ST} {b : Nat} {t : Nat} {x1 : Int64} {y0 : Int32} {σ : ST}   (h : KBY B0 s σ) : PF st1 (KBY B0 s) (f_X4_takeReal_44 b t x1 y0 σ) := by
  unfold f_X4_takeReal_44
  exact (PF.ite (fun _ => (PF.ret1 h)) (fun _ => (PF.ret1 h)))
theorem wb_X4_takeReal_4 {B0 : Nat} {s : ST} {b : Nat} {t : Nat}  (h_b : B0 = b) : ∀ (n : Nat) (x1 : Int64) (x2 : Int32) (σ : ST), KBY B0 s σ → PF st1 (KBY B0 s) (f_X4_takeReal_4 b t n x1 x2 σ) := by
  intro n
  induction n with
  | zero => intro x1 x2 σ h; rw [f_X4_takeReal_4]; exact PF.none
  | succ n ih =>
    intro x1 x2 σ h
    rw [f_X4_takeReal_4]
    exact (PF.ite (fun _ => (PF.ite (fun _ => (wb_X4_takeReal_44  h)) (fun _ => (wb_X4_takeReal_44  h)))) (fun _ => (PF.bnd (wb_X4_takeByte (by omega) h) (fun q1 hq1 => (ih _ _ _ hq1)))))
theorem wb_X4_takeReal {B0 : Nat} {s : ST} {b : Nat} {t : Nat} {σ : ST}  (h_b : B0 = b) (h : KBY B0 s σ) : PF st1 (KBY B0 s) (f_X4_takeReal b t σ) := by
  unfold f_X4_takeReal
  exact (wb_X4_takeReal_4 (by omega) _ _ _ _ h)
theorem wb_X4_takeCount_26 {B0 : Nat} {s : ST} {b : Nat} {t : Nat} {x3 : Int64} {σ : ST}   (h : KBY B0 s σ) : PF st1 (KBY B0 s) (f_X4_takeCount_26 b t x3 σ) := by
  unfold f_X4_takeCount_26
  exact (PF.ite (fun _ => (PF.ret1 h)) (fun _ => (PF.ret1 h)))
theorem wb_X4_takeCount_19 {B0 : Nat} {s : ST} {b : Nat} {t : Nat} {x1 : Int32} {x3 : Int64} {σ : ST}  (h_b : B0 = b) (h : KBY B0 s σ) : PF st1 (KBY B0 s) (f_X4_takeCount_19 b t x1 x3 σ) := by
  unfold f_X4_takeCount_19
  exact (PF.bnd (wb_X4_fail (by omega) h) (fun q1 hq1 => (wb_X4_takeCount_26  hq1)))
theorem wb_X4_takeCount {B0 : Nat} {s : ST} {b : Nat} {t : Nat} {p0 : Int32} {p1 : Int32} {σ : ST}  (h_b : B0 = b) (h : KBY B0 s σ) : PF st1 (KBY B0 s) (f_X4_takeCount b t p0 p1 σ) := by
  unfold f_X4_takeCount
  exact (PF.bnd (wb_X4_takeNumber (by omega) h) (fun q1 hq1 => (PF.ite (fun _ => (wb_X4_takeCount_19 (by omega) hq1)) (fun _ => (PF.ite (fun _ => (wb_X4_takeCount_26  hq1)) (fun _ => (wb_X4_takeCount_19 (by omega) hq1)))))))
theorem wb_X4_takeLetters_45 {B0 : Nat} {s : ST} {k5 : Int32 → Int32 → Int64 → Int32 → ST → Option (Int64 × ST)} {b : Nat} {t : Nat} {x1 : Int32} {x2 : Int32} {x3 : Int64} {x5 : Int32} {x6 : Int32} {σ : ST} (h_k5 : ∀ (x1 : Int32) (x2 : Int32) (x3 : Int64) (x4 : Int32) (σ : ST), KBY B0 s σ → PF st1 (KBY B0 s) (k5 x1 x2 x3 x4 σ))  (h : KBY B0 s σ) : PF st1 (KBY B0 s) (f_X4_takeLetters_45 k5 b t x1 x2 x3 x5 x6 σ) := by
  unfold f_X4_takeLetters_45
  exact (PF.val (h_k5 _ _ _ _ _ h))
theorem wb_X4_takeLetters_38 {B0 : Nat} {s : ST} {k5 : Int32 → Int32 → Int64 → Int32 → ST → Option (Int64 × ST)} {b : Nat} {t : Nat} {x1 : Int32} {x2 : Int32} {x3 : Int64} {x5 : Int32} {x6 : Int32} {σ : ST} (h_k5 : ∀ (x1 : Int32) (x2 : Int32) (x3 : Int64) (x4 : Int32) (σ : ST), KBY B0 s σ → PF st1 (KBY B0 s) (k5 x1 x2 x3 x4 σ)) (h_b : B0 = b) (h : KBY B0 s σ) : PF st1 (KBY B0 s) (f_X4_takeLetters_38 k5 b t x1 x2 x3 x5 x6 σ) := by
  unfold f_X4_takeLetters_38
  exact (PF.bnd (wb_X4_fail (by omega) h) (fun q1 hq1 => (wb_X4_takeLetters_45 h_k5 hq1)))
theorem wb_X4_takeLetters_5 {B0 : Nat} {s : ST} {b : Nat} {t : Nat}  (h_b : B0 = b) : ∀ (n : Nat) (x1 : Int32) (x2 : Int32) (x3 : Int64) (x4 : Int32) (σ : ST), KBY B0 s σ → PF st1 (KBY B0 s) (f_X4_takeLetters_5 b t n x1 x2 x3 x4 σ) := by
  intro n
  induction n with
  | zero => intro x1 x2 x3 x4 σ h; rw [f_X4_takeLetters_5]; exact PF.none
  | succ n ih =>
    intro x1 x2 x3 x4 σ h
    rw [f_X4_takeLetters_5]
    exact (PF.ite (fun _ => (PF.ret1 h)) (fun _ => (PF.ite (fun _ => (PF.bnd (wb_X4_takeByte (by omega) h) (fun q1 hq1 => (PF.ite (fun _ => (wb_X4_takeLetters_38 ih (by omega) hq1)) (fun _ => (PF.ite (fun _ => (wb_X4_takeLetters_45 ih hq1)) (fun _ => (wb_X4_takeLetters_38 ih (by omega) hq1)))))))) (fun _ => (PF.ret1 h)))))
theorem wb_X4_takeLetters {B0 : Nat} {s : ST} {b : Nat} {t : Nat} {p0 : Int32} {p1 : Int32} {σ : ST}  (h_b : B0 = b) (h : KBY B0 s σ) : PF st1 (KBY B0 s) (f_X4_takeLetters b t p0 p1 σ) := by
  unfold f_X4_takeLetters
  exact (wb_X4_takeLetters_5 (by omega) _ _ _ _ _ _ h)
theorem wb_X10_isInt {B0 : Nat} {s : ST} {p0 : Int64} {σ : ST}   (h : KBY B0 s σ) : PF st1 (KBY B0 s) (f_X10_isInt p0 σ) := by
  unfold f_X10_isInt
  exact (PF.ite (fun _ => (PF.ret1 h)) (fun _ => (PF.ite (fun _ => (PF.ret1 h)) (fun _ => (PF.ret1 h)))))
theorem wb_X5_isType {B0 : Nat} {s : ST} {b : Nat} {p0 : Int32} {σ : ST}   (h : KBY B0 s σ) : PF st1 (KBY B0 s) (f_X5_isType b p0 σ) := by
  unfold f_X5_isType
  exact (PF.ite (fun _ => (PF.ret1 h)) (fun _ => (PF.ite (fun _ => (PF.ret1 h)) (fun _ => (PF.ite (fun _ => (PF.ret1 h)) (fun _ => (PF.ret1 h)))))))
theorem wb_X5_sortOf {B0 : Nat} {s : ST} {b : Nat} {p0 : Int32} {σ : ST}   (h : KBY B0 s σ) : PF st1 (KBY B0 s) (f_X5_sortOf b p0 σ) := by
  unfold f_X5_sortOf
  exact (PF.bnd (wb_X5_isType  h) (fun q1 hq1 => (PF.ite (fun _ => (PF.ret1 hq1)) (fun _ => (PF.ite (fun _ => (PF.ret1 hq1)) (fun _ => PF.none))))))
theorem wb_X5_innerOf {B0 : Nat} {s : ST} {b : Nat} {p0 : Int32} {σ : ST}   (h : KBY B0 s σ) : PF st1 (KBY B0 s) (f_X5_innerOf b p0 σ) := by
  unfold f_X5_innerOf
  exact (PF.bnd (wb_X5_isType  h) (fun q1 hq1 => (PF.ite (fun _ => (PF.ret1 hq1)) (fun _ => (PF.ite (fun _ => (PF.ret1 hq1)) (fun _ => PF.none))))))
theorem wb_X5_isRecord {B0 : Nat} {s : ST} {p0 : Int32} {σ : ST}   (h : KBY B0 s σ) : PF st1 (KBY B0 s) (f_X5_isRecord p0 σ) := by
  unfold f_X5_isRecord
  exact (PF.ite (fun _ => (PF.ret1 h)) (fun _ => (PF.ite (fun _ => (PF.ret1 h)) (fun _ => (PF.ret1 h)))))
theorem wb_X5_fieldsOf {B0 : Nat} {s : ST} {b : Nat} {p0 : Int32} {σ : ST}   (h : KBY B0 s σ) : PF st1 (KBY B0 s) (f_X5_fieldsOf b p0 σ) := by
  unfold f_X5_fieldsOf
  exact (PF.bnd (wb_X5_isRecord  h) (fun q1 hq1 => (PF.ite (fun _ => (PF.ret1 hq1)) (fun _ => (PF.ite (fun _ => (PF.ret1 hq1)) (fun _ => PF.none))))))
/-- both frames at once -/
def KFB (b t : Nat) (s σ : ST) : Prop := KRA b t s σ ∧ KBY b s σ
theorem a_addFull {b t : Nat} (hb : BT b t) (y pa pl n : Int32) (w : Int64) {s : ST} (hy : ¬ y = -1) (h400 : 400 ≤ (s.1 t 1).toInt) : QT (f_X4_addNode b t y pa pl n w s) (fun q => ¬ q.2.1 b 7 = 0) := by
  have l400 := li_400
  have lm := li_m1
  unfold f_X4_addNode
  refine QT.ite (fun h => absurd h hy) (fun _ => ?_)
  refine QT.ite (fun _ => ?_) (fun h => QT.ret h)
  refine QT.grd (fun _ => ?_)
  refine QT.ile (fun _ => ?_) (fun h => by omega)
  unfold f_X4_addNode_48
  refine QT.ite (fun _ => ?_) (fun h => absurd rfl h)
  refine QT.bnd (a_failed hb 15 (-1) s (by decide)) (fun s2 hs2 => ?_)
  unfold f_X4_addNode_63
  refine QT.grd (fun _ => QT.bnd (Q := fun z => z = s2) ?_ (fun z hz => QT.ret (by rw [hz]; exact hs2)))
  unfold f_X7_setWorth
  refine QT.bnd (pt_isRow t (-1) s2) (fun q hq => ?_)
  obtain ⟨v, s'⟩ := q
  obtain ⟨e, hv⟩ := hq
  have e : s' = s2 := e
  subst e
  dsimp only
  refine QT.ieq (fun _ => QT.ret rfl) (fun h => ?_)
  exfalso
  have l0 := li_0
  have hv : v.toInt = 0 ∧ ¬ (0 ≤ (-1 : Int32).toInt ∧ (-1 : Int32).toInt < (s'.1 t 1).toInt ∧ (-1 : Int32).toInt < (s'.1 t 0).toInt) ∨ v.toInt = 1 ∧ 0 ≤ (-1 : Int32).toInt ∧ (-1 : Int32).toInt < (s'.1 t 1).toInt ∧ (-1 : Int32).toInt < (s'.1 t 0).toInt := hv
  omega
theorem f_137 {b t : Nat} (hb : BT b t) (s0 uA pa pl n : Int32) (w : Int64) {s : ST} (hy : ¬ uA = -1) (h400 : 400 ≤ (s.1 t 1).toInt) : QT (f_X4_takePlain_137 b t s0 uA pa pl n w s) (fun z => ¬ z.1 b 7 = 0) := by
  by_cases h7 : s.1 b 7 = 0
  rotate_left
  · exact ad_plain137 hb h7 _ _ _ _ _ _
  have k183 : ∀ (v : Int64) (z : ST), 400 ≤ (z.1 t 1).toInt → QT (f_X4_takePlain_183 b t v n pl pa uA z) (fun z => ¬ z.1 b 7 = 0) := fun v z hz => by
    unfold f_X4_takePlain_183
    exact QT.bnd (a_addFull hb uA pa pl n v hy hz) (fun q hq => QT.ret hq)
  unfold f_X4_takePlain_137 f_X4_takePlain_158 f_X4_takePlain_159
  refine QT.ite (fun _ => QT.ite (fun _ => k183 w s h400) (fun h => absurd rfl h)) (fun _ => ?_)
  refine QT.bnd (Q := fun z => KRA b t s z.2 ∧ KBY b s z.2) (fun z e => ⟨wr_X5_sortOf (B0 := b) (T0 := t) (s := s) (KRA.rf hb) z e, wb_X5_sortOf (B0 := b) (s := s) KBY.rf z e⟩) (fun z hz => ?_)
  have hb' := hb
  unfold BT at hb'
  have hz4 : 400 ≤ (z.2.1 t 1).toInt := by rw [hz.2.1 t (by omega)]; exact h400
  refine QT.ite (fun _ => QT.ite (fun _ => k183 w z.2 hz4) (fun _ => ?_)) (fun _ => QT.ite (fun _ => k183 w z.2 hz4) (fun h => absurd rfl h))
  exact QT.bnd (whole_bits w z.2) (fun q hq => k183 q.1 q.2 (by rw [hq.1]; exact hz4))
/-- a plain value finds no room -/
theorem f_plain {b t : Nat} (hb : BT b t) (s0 uA pa pl : Int32) {σ : ST} (hy : ¬ uA = -1) (h400 : 400 ≤ (σ.1 t 1).toInt) : QT (f_X4_takePlain b t s0 uA pa pl σ) (fun z => ¬ z.1 b 7 = 0) := by
  have hb' := hb
  unfold BT at hb'
  have k : ∀ (n : Int32) (w : Int64) (z : ST), KBY b σ z → QT (f_X4_takePlain_137 b t s0 uA pa pl n w z) (fun z => ¬ z.1 b 7 = 0) := fun n w z hz => f_137 hb s0 uA pa pl n w hy (by rw [hz.1 t (by omega)]; exact h400)
  have kf : ∀ (p0 p1 : Int32) (z : ST), KBY b σ z → QT (f_X4_fail b t p0 p1 z) (fun s => KBY b σ s) := fun p0 p1 z hz s e => wb_X4_fail (B0 := b) rfl hz s e
  unfold f_X4_takePlain
  refine QT.ite (fun _ => ?_) (fun _ => QT.ite (fun _ => ?_) (fun _ => QT.ite (fun _ => ?_) (fun _ => QT.ite (fun _ => ?_) (fun _ => QT.ite (fun _ => ?_) (fun _ => k 0 0 σ KBY.rf)))))
  · refine QT.bnd (Q := fun z => KBY b σ z.2) (fun z e => wb_X4_takeByte (B0 := b) rfl KBY.rf z e) (fun z hz => ?_)
    exact QT.ite (fun _ => k _ _ _ hz) (fun _ => QT.bnd (kf _ _ _ hz) (fun s hs => k _ _ _ hs))
  · refine QT.bnd (Q := fun z => KBY b σ z.2) (fun z e => wb_X4_takeNumber (B0 := b) rfl KBY.rf z e) (fun z hz => ?_)
    refine QT.ite (fun _ => ?_) (fun _ => k _ _ _ hz)
    refine QT.bnd (Q := fun z => KBY b σ z.2) (fun z' e => wb_X10_isInt (B0 := b) hz z' e) (fun z' hz' => ?_)
    exact QT.ite (fun _ => QT.bnd (kf _ _ _ hz') (fun s hs => k _ _ _ hs)) (fun _ => k _ _ _ hz')
  · refine QT.bnd (Q := fun z => KBY b σ z.2) (fun z e => wb_X4_takeNumber (B0 := b) rfl KBY.rf z e) (fun z hz => ?_)
    refine QT.ite (fun _ => ?_) (fun _ => k _ _ _ hz)
    refine QT.bnd (Q := fun z => KBY b σ z.2) (fun z' e => wb_X10_isInt (B0 := b) hz z' e) (fun z' hz' => ?_)
    exact QT.ite (fun _ => QT.bnd (kf _ _ _ hz') (fun s hs => k _ _ _ hs)) (fun _ => k _ _ _ hz')
  · exact QT.bnd (Q := fun z => KBY b σ z.2) (fun z e => wb_X4_takeReal (B0 := b) rfl KBY.rf z e) (fun z hz => k _ _ _ hz)
  · refine QT.bnd (Q := fun z => KBY b σ z.2) (fun z e => wb_X4_takeCount (B0 := b) rfl KBY.rf z e) (fun z hz => ?_)
    exact QT.bnd (Q := fun z => KBY b σ z.2) (fun z' e => wb_X4_takeLetters (B0 := b) rfl hz z' e) (fun z' hz' => k _ _ _ hz')
/-- a list, a record finds no room -/
theorem f_list {rT rF rL rO rR : FTK} {b t : Nat} (hb : BT b t) (x1 uA pa pl lev : Int32) {σ : ST} (hy : ¬ uA = -1) (h400 : 400 ≤ (σ.1 t 1).toInt) : QT (f_X4_takeList rT rF rL rO rR b t x1 uA pa pl lev σ) (fun z => ¬ z.1 b 7 = 0) := by
  have hb' := hb
  unfold BT at hb'
  unfold f_X4_takeList f_X4_takeList_43
  refine QT.bnd (Q := fun z => KBY b σ z.2) (fun z e => wb_X4_takeCount (B0 := b) rfl KBY.rf z e) (fun q1 hq1 => ?_)
  refine QT.bnd (a_addFull hb uA pa pl q1.1 0 hy (by rw [hq1.1 t (by omega)]; exact h400)) (fun q3 h3 => ?_)
  refine QT.ite (fun h => absurd h hy) (fun _ => ?_)
  exact QT.bnd (ad_inner hb uA h3) (fun q5 h5 => ad_48 x1 lev q1.1 q3.1 q5.1 h5 FU 0)
theorem f_rec {rT rF rL rO rR : FTK} {b t : Nat} (hb : BT b t) (x1 uA pa pl lev : Int32) {σ : ST} (hy : ¬ uA = -1) (h400 : 400 ≤ (σ.1 t 1).toInt) : QT (f_X4_takeRecord rT rF rL rO rR b t x1 uA pa pl lev σ) (fun z => ¬ z.1 b 7 = 0) := by
  have hb' := hb
  unfold BT at hb'
  unfold f_X4_takeRecord f_X4_takeRecord_17
  refine QT.ite (fun h => absurd h hy) (fun _ => ?_)
  refine QT.bnd (Q := fun z => KBY b σ z.2) (fun z e => wb_X5_innerOf (B0 := b) KBY.rf z e) (fun q1 hq1 => ?_)
  refine QT.bnd (Q := fun z => KBY b σ z.2) (fun z e => wb_X5_fieldsOf (B0 := b) hq1 z e) (fun q2 hq2 => ?_)
  refine QT.bnd (a_addFull hb uA pa pl q2.1 0 hy (by rw [hq2.1 t (by omega)]; exact h400)) (fun q3 h3 => ?_)
  refine QT.bnd (Q := fun z => ¬ z.1 b 7 = 0) (fun z e => ?_) (fun q5 h5 => ad_51 x1 lev q1.1 q3.1 hb h5 FU 0)
  have k : KRA b t q3.2 z := wr_X4_findSources (B0 := b) (T0 := t) (s := q3.2) rfl (KRA.rf hb) z e
  exact k.nz h3
/-! a value of one type (no either-or of the writer's), both sides -/
abbrev FRI : Type := Int32 → Int32 → Int32 → Int32 → ST → Option (Int32 × ST)
def cLSS (b t m p q : Nat) (S T : ST) (rL : FTK) (rI : FRI) : Prop := ∀ (x1 u lev pa pl xB : Int32) (L d x : Nat) (σ τ : ST), L ≤ 30 → lev.toInt = L → TY p (T.1 8 p).toInt S T d x1 (T.1 3 u.toNatClampNeg) → d ≤ 4 → (0 ≤ u.toInt ∧ u.toInt < 800) → RCX b t m S T σ τ x → QT (rL b t x1 (-1) pa pl lev σ) (fun s => QT (rI u (-1) lev xB τ) (ROUT b (RSK b t m L S T x σ τ) s))
def cRCS (b t m p q : Nat) (S T : ST) (rR : FTK) (rS : FRI) : Prop := ∀ (xR u lev pa pl xB : Int32) (L w mW x : Nat) (σ τ : ST), L ≤ 30 → lev.toInt = L → xR.toInt = 6 * (p : Int) + w → (0 ≤ u.toInt ∧ u.toInt < 800) → (T.1 3 u.toNatClampNeg).toInt = w → (w : Int) < (T.1 8 p).toInt → (T.1 11 (6 * p + w)).toInt = mW → RCX b t m S T σ τ x → QT (rR b t xR (-1) pa pl lev σ) (fun s => QT (rS u (-1) lev xB τ) (ROUT b (RSK b t m L S T x σ τ) s))
/-- what a list, a record that is wanted starts from -/
def NDH (b t m q : Nat) (S T : ST) (L : Nat) (tA tB uA uB so br : Int32) (x : Nat) (pa pl : Int32) (l k : List EN) (σ τ τ1 : ST) (xB : Int32) : Prop := (PARG t σ τ x x pa pa pl l k ∧ RCX b t m S T σ τ x ∧ x < 400) ∧ (GRB x so pa pl br (rB l) (rB k) τ τ1 ∧ xB.toInt = x) ∧ ((0 ≤ uB.toInt ∧ uB.toInt < 800) ∧ T.1 2 uB.toNatClampNeg = so ∧ ¬ uA = -1) ∧ (∀ z, KRA b t S z → f_X5_sortOf 4 uA z = some (so, z)) ∧ (∀ z, KRA b t S z → f_X5_innerOf 4 uA z = some (S.1 16 uA.toNatClampNeg, z)) ∧ OWN S T tA tB br uA uB
def cLSN (b t m p q : Nat) (S T : ST) (rL : FTK) (rI : FRI) : Prop := ∀ (x1 u lev xB tA tB uA uB so br pa pl : Int32) (L d e0 x : Nat) (l k : List EN) (σ τ τ1 : ST), L ≤ 30 → lev.toInt = L → NDH b t m q S T L tA tB uA uB so br x pa pl l k σ τ τ1 xB → so.toInt = 6 → TY p (T.1 8 p).toInt S T d x1 (T.1 3 u.toNatClampNeg) → d ≤ 4 → TY q (T.1 8 q).toInt S T e0 (S.1 16 uA.toNatClampNeg) (T.1 3 uB.toNatClampNeg) → e0 ≤ 4 → MS T (T.1 3 u.toNatClampNeg) (T.1 3 uB.toNatClampNeg) → (0 ≤ u.toInt ∧ u.toInt < 800) → QT (rL b t x1 uA pa pl lev σ) (fun s => QT (rI u uB lev xB τ1) (ROUT b (RVP b t m q L S T tA tB x pa pl l k σ τ) s))
def cRCN (b t m p q : Nat) (S T : ST) (rR : FTK) (rS : FRI) : Prop := ∀ (xR u lev xB tA tB uA uB so br pa pl : Int32) (L w r mW mR x : Nat) (l k : List EN) (σ τ τ1 : ST), L ≤ 30 → lev.toInt = L → NDH b t m q S T L tA tB uA uB so br x pa pl l k σ τ τ1 xB → so.toInt = 7 → RPR p q T xR (S.1 16 uA.toNatClampNeg) u uB w r mW mR → (0 ≤ u.toInt ∧ u.toInt < 800) → QT (rR b t xR uA pa pl lev σ) (fun s => QT (rS u uB lev xB τ1) (ROUT b (RVP b t m q L S T tA tB x pa pl l k σ τ) s))
/-- nothing comes into a full tree -/
def cFUL (b t : Nat) (r : FTK) : Prop := ∀ (x1 uA pa pl lev : Int32) (σ : ST), ¬ uA = -1 → 400 ≤ (σ.1 t 1).toInt → QT (r b t x1 uA pa pl lev σ) (fun z => ¬ z.1 b 7 = 0)
/-- what a type of the writer says -/
theorem TG.rec7 {p d : Nat} {S T : ST} {x u : Int32} (h : TG p (T.1 8 p).toInt S T d x u) (h7 : (T.1 2 u.toNatClampNeg).toInt = 7) : ∃ w : Nat, (T.1 3 u.toNatClampNeg).toInt = w ∧ (w : Int) < (T.1 8 p).toInt ∧ (S.1 16 x.toNatClampNeg).toInt = 6 * (p : Int) + w := by
  obtain ⟨⟨h1, h2⟩, h3⟩ := h.2.2.2.2.1 h7
  exact ⟨(T.1 3 u.toNatClampNeg).toInt.toNat, by omega, by omega, by omega⟩
theorem r_own_s {b t m p q : Nat} {S T : ST} {rT rF rL rO rR : FTK} {rb : FRD} {rI rS : FRI} (hS : RST p q S T) (hSS : RSS b t S) (hLS : cLSS b t m p q S T rL rI) (hRS : cRCS b t m p q S T rR rS) {L : Nat} (hL : L ≤ 30) (x u lev pa pl : Int32) {d xr : Nat} (hlev : lev.toInt = L) (hG : TG p (T.1 8 p).toInt S T d x u) (hd : d ≤ 4) (h8 : ¬ (T.1 2 u.toNatClampNeg).toInt = 8) (σ τ : ST) (hC : RCX b t m S T σ τ xr) : QT (f_X4_takeOwn_26 rT rF rL rO rR b t x pa pl lev (-1) σ) (fun s => QT (f_X11_reads_227 rb rI rS u lev (-1) (-1) τ) (ROUT b (RSK b t m L S T xr σ τ) s)) := by
  have l6 := li_6
  have l7 := li_7
  have lm := li_m1
  obtain ⟨hsA, hiA⟩ := hG.rA hSS.2.2 hC.1.1.kta
  have e2 : τ.1 2 = T.1 2 := hC.1.2.ty.1
  have hr := hG.2.2.1
  unfold f_X4_takeOwn_26 f_X11_reads_227
  rw [hsA, sbnd]
  dsimp only
  rw [e2]
  refine QT.sw ?_
  refine QT.grd (fun hu => ?_)
  refine QT.sw ?_
  refine QT.ieq (fun h7 => ?_) (fun h7 => ?_)
  · obtain ⟨w, w1, w2, w3⟩ := hG.rec7 (by omega)
    have ac := (hS.1.2.2.1.1.acc w2).2.2.1.1
    rw [hiA, sbnd]
    dsimp only
    refine QT.bnd (hRS (S.1 16 x.toNatClampNeg) u lev pa pl (-1) L w (T.1 11 (6 * p + w)).toInt.toNat xr σ τ hL hlev w3 hu w1 w2 (by omega) hC) (fun s hs => QT.ret ?_)
    refine QT.ieq (fun h => by omega) (fun _ => QT.ieq (fun _ => ?_) (fun h => by omega))
    exact QT.bnd hs (fun v hv => QT.grd (fun _ => QT.ret hv))
  refine QT.ieq (fun h6 => ?_) (fun h6 => ?_)
  · rw [hiA, sbnd]
    dsimp only
    refine QT.bnd (hLS (S.1 16 x.toNatClampNeg) u lev pa pl (-1) L d xr σ τ hL hlev (hG.2.2.2.1 (by omega)) hd hu hC) (fun s hs => QT.ret ?_)
    refine QT.ieq (fun _ => ?_) (fun h => by omega)
    exact QT.bnd hs (fun v hv => QT.grd (fun _ => QT.ret hv))
  · refine QT.bnd (r_leafs hC (T.1 2 u.toNatClampNeg) pa pl u (-1) hu (by rw [e2]) ⟨by omega, by omega⟩ (-1) (by omega) (L := L)) (fun s hs => QT.ret ?_)
    refine QT.ieq (fun h => by omega) (fun _ => QT.ieq (fun h => by omega) (fun _ => ?_))
    exact QT.bnd hs (fun v hv => QT.grd (fun _ => QT.ret hv))
/-- a value that is wanted, of types that match -/
theorem r_own_n {b t m p q : Nat} {S T : ST} {rT rF rL rO rR : FTK} {rb : FRD} {rI rS : FRI} (hS : RST p q S T) (hSS : RSS b t S) (hLN : cLSN b t m p q S T rL rI) (hRN : cRCN b t m p q S T rR rS) (hfL : cFUL b t rL) (hfR : cFUL b t rR) {L : Nat} (hL : L ≤ 30) (x u lev pa pl tA tB uA uB br : Int32) {d e0 xr : Nat} (hlev : lev.toInt = L) (hG : TG p (T.1 8 p).toInt S T d x u) (hd : d ≤ 4) (h8 : ¬ (T.1 2 u.toNatClampNeg).toInt = 8) (hH : TG q (T.1 8 q).toInt S T e0 uA uB) (he : e0 ≤ 4) (hB8 : ¬ (T.1 2 uB.toNatClampNeg).toInt = 8) (hM : MS T u uB) (hO : OWN S T tA tB br uA uB) {l k : List EN} (σ τ : ST) (hC : RCX b t m S T σ τ xr) (hP : PARG t σ τ xr xr pa pa pl l k) : QT (f_X4_takeOwn_26 rT rF rL rO rR b t x pa pl lev uA σ) (fun s => QT (f_X11_reads_180 rb rI rS u lev pa pl br uB τ) (ROUT b (RVP b t m q L S T tA tB xr pa pl l k σ τ) s)) := by
  have hb := hC.1.1.1
  have l0 := li_0
  have l6 := li_6
  have l7 := li_7
  have l400 := li_400
  have lm := li_m1
  obtain ⟨hsA, hiA⟩ := hG.rA hSS.2.2 hC.1.1.kta
  have e2 : τ.1 2 = T.1 2 := hC.1.2.ty.1
  have hr := hG.2.2.1
  have hrB := hH.2.2.1
  have hne : ¬ uA = -1 := fun h => by
    have := hH.1.1.1
    rw [h] at this
    omega
  have h46 := hC.2.2.2.1
  have h1 := hC.2.2.1
  have hx4 := hC.2.2.2.2
  have hu := hG.1.2
  have huB := hH.1.2
  have hm := MT.iff.mp hM
  unfold mB at hm
  have hm : ((T.1 2 u.toNatClampNeg).toInt = 6 ∧ (T.1 2 uB.toNatClampNeg).toInt = 6 ∧ MS T (T.1 3 u.toNatClampNeg) (T.1 3 uB.toNatClampNeg)) ∨ ((T.1 2 u.toNatClampNeg).toInt = 7 ∧ (T.1 2 uB.toNatClampNeg).toInt = 7 ∧ ¬ T.1 35 (6 * (T.1 3 u.toNatClampNeg).toNatClampNeg + (T.1 3 uB.toNatClampNeg).toNatClampNeg) = 0) ∨ ((T.1 2 u.toNatClampNeg).toInt ≤ 5 ∧ (T.1 2 uB.toNatClampNeg).toInt ≤ 5 ∧ PLS (T.1 2 u.toNatClampNeg).toInt (T.1 2 uB.toNatClampNeg).toInt) := by
    rcases hm with ⟨h9, _⟩ | ⟨_, h9, _⟩ | ⟨_, _, h9 | h9 | ⟨g1, g2, g3⟩⟩
    · exact absurd h9 h8
    · exact absurd h9 hB8
    · exact .inl h9
    · exact .inr (.inl h9)
    · refine .inr (.inr ?_)
      unfold PLS
      omega
  unfold f_X11_reads_180
  refine QT.sw ?_
  refine QT.ilt (fun h => by omega) (fun _ => ?_)
  refine QT.ieq (fun h4 => ?_) (fun h4 => ?_)
  · refine QT.bnd (q_fails 15 (-1) τ) (fun v hv => QT.grd (fun _ => QT.ret ?_))
    have hfull : 400 ≤ (σ.1 t 1).toInt := by omega
    refine QT.mono (P := fun s => ¬ s.1 b 7 = 0) ?_ (fun s hs => .inl ⟨hs, hv⟩)
    unfold f_X4_takeOwn_26
    rw [hsA, sbnd]
    dsimp only
    refine QT.ite (fun _ => ?_) (fun _ => QT.ite (fun _ => ?_) (fun _ => ?_))
    · rw [hiA, sbnd]
      exact QT.bnd (hfR _ uA pa pl lev σ hne hfull) (fun s hs => QT.ret hs)
    · rw [hiA, sbnd]
      exact QT.bnd (hfL _ uA pa pl lev σ hne hfull) (fun s hs => QT.ret hs)
    · exact QT.bnd (f_plain hb _ uA pa pl hne hfull) (fun s hs => QT.ret hs)
  refine QT.grd (fun _ => ?_)
  rw [e2]
  refine QT.bnd (b_lays (T.1 2 uB.toNatClampNeg) pa pl br τ h46 hP.gB) (fun qz hq => ?_)
  obtain ⟨xB, τ1⟩ := qz
  obtain ⟨⟨q1, q2⟩, gB⟩ := hq
  have q1 : xB.toInt = xr := q1
  have gB : GRB xr (T.1 2 uB.toNatClampNeg) pa pl br (rB l) (rB k) τ τ1 := gB
  dsimp only
  refine QT.sw ?_
  have e2' : τ1.1 2 = T.1 2 := (gB.1.1 2 (by omega) (by omega) (by omega)).trans e2
  have hN : NDH b t m q S T L tA tB uA uB (T.1 2 uB.toNatClampNeg) br xr pa pl l k σ τ τ1 xB := ⟨⟨hP, hC, by omega⟩, ⟨gB, q1⟩, ⟨huB, rfl, hne⟩, fun z hz => (hH.rA hSS.2.2 hz.kta).1, fun z hz => (hH.rA hSS.2.2 hz.kta).2, hO⟩
  unfold f_X4_takeOwn_26 f_X11_reads_227
  rw [hsA, sbnd]
  dsimp only
  rw [e2']
  refine QT.sw ?_
  refine QT.grd (fun _ => ?_)
  refine QT.sw ?_
  refine QT.ieq (fun h7 => ?_) (fun h7 => ?_)
  · obtain ⟨g1, g2, g3⟩ : (T.1 2 u.toNatClampNeg).toInt = 7 ∧ (T.1 2 uB.toNatClampNeg).toInt = 7 ∧ ¬ T.1 35 (6 * (T.1 3 u.toNatClampNeg).toNatClampNeg + (T.1 3 uB.toNatClampNeg).toNatClampNeg) = 0 := by
      rcases hm with ⟨g, _⟩ | h | ⟨g, _⟩
      · omega
      · exact h
      · omega
    obtain ⟨w, w1, w2, w3⟩ := hG.rec7 g1
    obtain ⟨r, r1, r2, r3⟩ := hH.rec7 g2
    have acw := (hS.1.2.2.1.1.acc w2).2.2.1.1
    have acr := (hS.1.2.2.1.2.acc r2).2.2.1.1
    rw [nC w1, nC r1] at g3
    rw [hiA, sbnd]
    dsimp only
    refine QT.bnd (hRN (S.1 16 x.toNatClampNeg) u lev xB tA tB uA uB _ br pa pl L w r (T.1 11 (6 * p + w)).toInt.toNat (T.1 11 (6 * q + r)).toInt.toNat xr l k σ τ τ1 hL hlev hN g2 ⟨⟨w3, r3⟩, ⟨w2, r2⟩, ⟨w1, r1⟩, ⟨by omega, by omega⟩, g3⟩ hu) (fun s hs => QT.ret ?_)
    refine QT.ieq (fun h => by omega) (fun _ => QT.ieq (fun _ => ?_) (fun h => by omega))
    exact QT.bnd hs (fun v hv => QT.grd (fun _ => QT.ret hv))
  refine QT.ieq (fun h6 => ?_) (fun h6 => ?_)
  · obtain ⟨g1, g2, g3⟩ : (T.1 2 u.toNatClampNeg).toInt = 6 ∧ (T.1 2 uB.toNatClampNeg).toInt = 6 ∧ MS T (T.1 3 u.toNatClampNeg) (T.1 3 uB.toNatClampNeg) := by
      rcases hm with h | ⟨g, _⟩ | ⟨g, _⟩
      · exact h
      · omega
      · omega
    rw [hiA, sbnd]
    dsimp only
    refine QT.bnd (hLN (S.1 16 x.toNatClampNeg) u lev xB tA tB uA uB _ br pa pl L d e0 xr l k σ τ τ1 hL hlev hN g2 (hG.2.2.2.1 g1) hd (hH.2.2.2.1 g2) he g3 hu) (fun s hs => QT.ret ?_)
    refine QT.ieq (fun _ => ?_) (fun h => by omega)
    exact QT.bnd hs (fun v hv => QT.grd (fun _ => QT.ret hv))
  · obtain ⟨g1, g2, g3⟩ : (T.1 2 u.toNatClampNeg).toInt ≤ 5 ∧ (T.1 2 uB.toNatClampNeg).toInt ≤ 5 ∧ PLS (T.1 2 u.toNatClampNeg).toInt (T.1 2 uB.toNatClampNeg).toInt := by
      rcases hm with ⟨g, _⟩ | ⟨g, _⟩ | h
      · omega
      · omega
      · exact h
    refine QT.bnd (r_leafn (q := q) hP hC (by omega) hSS (by omega) (T.1 2 u.toNatClampNeg) u xB gB q1 hu rfl ⟨hr.1, g1⟩ huB rfl ⟨hrB.1, g2⟩ hne (fun z hz => (hH.rA hSS.2.2 hz.kta).1) g3 hO (L := L)) (fun s hs => QT.ret ?_)
    refine QT.ieq (fun h => by omega) (fun _ => QT.ieq (fun h => by omega) (fun _ => ?_))
    exact QT.bnd hs (fun v hv => QT.grd (fun _ => QT.ret hv))
/-! a value read, either-ors and all, both sides -/
def cOWS (b t m p q : Nat) (S T : ST) (rO : FTK) (rb : FRD) : Prop := ∀ (x u lev pa pl pb pl' : Int32) (L d xr : Nat) (σ τ : ST), L ≤ 30 → lev.toInt = L → TG p (T.1 8 p).toInt S T d x u → d ≤ 4 → ¬ (T.1 2 u.toNatClampNeg).toInt = 8 → RCX b t m S T σ τ xr → QT (rO b t x (-1) pa pl lev σ) (fun s => QT (rb u (-1) lev pb pl' τ) (ROUT b (RSK b t m L S T xr σ τ) s))
def cOWN (b t m p q : Nat) (S T : ST) (rO : FTK) (rb : FRD) : Prop := ∀ (x u y v lev pa pl : Int32) (L d e0 xr : Nat) (l k : List EN) (σ τ : ST), L ≤ 30 → lev.toInt = L → TY p (T.1 8 p).toInt S T d x u → d ≤ 4 → ¬ (T.1 2 u.toNatClampNeg).toInt = 8 → TY q (T.1 8 q).toInt S T e0 y v → e0 ≤ 4 → MS T u v → RCX b t m S T σ τ xr → PARG t σ τ xr xr pa pa pl l k → QT (rO b t x y pa pl lev σ) (fun s => QT (rb u v lev pa pl τ) (ROUT b (RVP b t m q L S T y v xr pa pl l k σ τ) s))
theorem cows_top {b t m p q : Nat} {S T : ST} {rT rF rL rO rR : FTK} {rb : FRD} {rI rS : FRI} (hS : RST p q S T) (hSS : RSS b t S) (hLS : cLSS b t m p q S T rL rI) (hRS : cRCS b t m p q S T rR rS) : cOWS b t m p q S T (f_X4_takeOwn rT rF rL rO rR) (f_X11_reads rb rI rS) := by
  intro x u lev pa pl pb pl' L d xr σ τ hL hlev hG hd h8 hC
  have l8 := li_8
  have l0 := li_0
  have lm := li_m1
  have l31 : (31 : Int32).toInt = 31 := by decide
  have e2 : τ.1 2 = T.1 2 := hC.1.2.ty.1
  have hu := hG.1.2
  unfold f_X4_takeOwn f_X11_reads
  rw [a4_sortOf_m1 σ, sbnd]
  dsimp only
  refine QT.ieq (fun h => by omega) (fun _ => ?_)
  refine QT.sw ?_
  refine QT.ilt (fun _ => ?_) (fun h => by omega)
  refine QT.grd (fun _ => ?_)
  rw [e2]
  refine QT.ieq (fun h => by omega) (fun _ => ?_)
  refine QT.ilt (fun _ => ?_) (fun h => by omega)
  unfold f_X11_reads_157 f_X11_reads_158 f_X11_reads_180
  refine QT.ile (fun h => by omega) (fun _ => ?_)
  refine QT.ilt (fun _ => ?_) (fun h => by omega)
  refine QT.sw ?_
  exact r_own_s hS hSS hLS hRS hL x u lev pa pl hlev hG hd h8 σ τ hC
theorem cown_top {b t m p q : Nat} {S T : ST} {rT rF rL rO rR : FTK} {rb : FRD} {rI rS : FRI} (hS : RST p q S T) (hSS : RSS b t S) (hLN : cLSN b t m p q S T rL rI) (hRN : cRCN b t m p q S T rR rS) (hfL : cFUL b t rL) (hfR : cFUL b t rR) : cOWN b t m p q S T (f_X4_takeOwn rT rF rL rO rR) (f_X11_reads rb rI rS) := by
  intro x u y v lev pa pl L d e0 xr l k σ τ hL hlev hX hd h8 hY he hM hC hP
  have l8 := li_8
  have l0 := li_0
  have lm := li_m1
  have l31 : (31 : Int32).toInt = 31 := by decide
  have e2 : τ.1 2 = T.1 2 := hC.1.2.ty.1
  have e5 : τ.1 5 = T.1 5 := hC.1.2.ty.2.2.2.1
  have ru := hX.rng
  have rv := hY.rng
  have hn := hSS.2.2
  cases d with
  | zero => exact hX.elim
  | succ d =>
  cases e0 with
  | zero => exact hY.elim
  | succ e0 =>
  have hG := TG.of hX
  have hH := TG.of hY
  obtain ⟨hsY, _⟩ := hH.rA hn hC.1.1.kta
  unfold f_X4_takeOwn f_X11_reads
  rw [hsY, sbnd]
  dsimp only
  refine QT.sw ?_
  refine QT.ilt (fun _ => ?_) (fun h => by omega)
  refine QT.grd (fun _ => ?_)
  rw [e2]
  refine QT.ieq (fun h => by omega) (fun _ => ?_)
  refine QT.ilt (fun h => by omega) (fun _ => ?_)
  refine QT.grd (fun _ => ?_)
  refine QT.ieq (fun hv8 => ?_) (fun hv8 => ?_)
  · -- an either-or of the reader's
    have hv8' : (T.1 2 v.toNatClampNeg).toInt = 8 := by omega
    refine QT.sw ?_
    refine QT.ite (fun _ => ?_) (fun h => absurd (Int32.toInt_inj.mp hv8) h)
    refine QT.bndR (rx_chosen hS hC.1.1 hC.1.2 x y u v (d + 1) (e0 + 1) hX hY h8 hv8' hd he hM) (fun zc hzc => ?_)
    dsimp only
    refine QT.sw ?_
    refine QT.bndR hzc (fun kc hkc => ?_)
    obtain ⟨i, i1, i2, i3, i4⟩ := hkc
    dsimp only
    obtain ⟨mm, hm, hMm, hT, _, _⟩ := hH.2.2.2.2.2 hv8'
    obtain ⟨hTi, hn8⟩ := hT i (by omega)
    unfold f_X11_reads_158
    refine QT.ile (fun _ => ?_) (fun h => by omega)
    have em := mlE (k := 4) (y := v) 4 li_4 (by omega) (by omega)
    have ea := il_addE (x := 4 * v) (y := kc) (by omega) (by omega)
    have na : (4 * v + kc).toNatClampNeg = 4 * v.toNatClampNeg + i := nC (by have := nN_ rv.2.1; omega)
    refine QT.grd (fun _ => ?_)
    rw [na, e5, i2]
    refine QT.sw ?_
    cases e0 with
    | zero => exact hTi.elim
    | succ e0 =>
      exact r_own_n hS hSS hLN hRN hfL hfR hL x u lev pa pl y v _ _ kc hlev hG (by omega) h8 (TG.of hTi) (by omega) hn8 i4 (.inr ⟨hv8', i, i3, by omega, rfl, rfl⟩) σ τ hC hP
  · have hv8' : ¬ (T.1 2 v.toNatClampNeg).toInt = 8 := by omega
    unfold f_X11_reads_157 f_X11_reads_158
    refine QT.ile (fun h => by omega) (fun _ => ?_)
    refine QT.sw ?_
    refine QT.ite (fun h => absurd (by rw [h]) hv8) (fun _ => ?_)
    exact r_own_n hS hSS hLN hRN hfL hfR hL x u lev pa pl y v y v (-1) hlev hG (by omega) h8 hH (by omega) hv8' hM (.inl ⟨lm, rfl, rfl, hv8'⟩) σ τ hC hP
/-- a record of no bytes, or a value of none, that the reader doesn't want: the reference goes through it -/
def cEMP (b t m p q : Nat) (S T : ST) (rb : FRD) : Prop := ∀ (x u lev : Int32) (L d xr : Nat) (σ τ : ST), L ≤ 30 → lev.toInt = L → TY p (T.1 8 p).toInt S T d x u → d ≤ 4 → RCX b t m S T σ τ xr → QT (f_X4_isEmptyThere b t x lev σ) (fun q1 => q1.2 = σ ∧ (¬ q1.1 = 0 → ∀ pb pl' : Int32, QT (rb u (-1) lev pb pl' τ) (fun w => w.1 = 1 ∧ RSK b t m L S T xr σ τ σ w.2)))
/-- behind a branch's value both take their step back -/
theorem ROUT.back {b : Nat} {K J : ST → ST → Prop} {s s2 : ST} {w : Int32 × ST} (h : ROUT b K s w) (hs : STP b s s2) (hJ : ∀ z, STB w.2 z → K s w.2 → J s2 z) : ROUT b J s2 (w.1, stI w.2 0 57 (w.2.1 0 57 - 1)) := by
  rcases h with ⟨h1, h2⟩ | ⟨h1, h2⟩
  · exact .inl ⟨by rw [hs.2.1 7 (by omega)]; exact h1, h2⟩
  · exact .inr ⟨h1, hJ _ STB.i h2⟩
/-! an either-or of the writer's, both sides -/
theorem TRE.aga {t : Nat} {σ s τ w : ST} (h : TRE t σ s τ w) (x e : Nat) : AGA t σ s x e := fun j _ _ => ⟨⟨fun k _ _ => by rw [h.1 (t + k) (by omega) (by omega)], by rw [h.2.1]⟩, by rw [h.1 (t + 7) (by omega) (by omega)], by rw [h.1 (t + 8) (by omega) (by omega)], fun _ => by rw [h.1 (t + 9) (by omega) (by omega)]⟩
theorem TRE.agb {t : Nat} {σ s τ w : ST} (h : TRE t σ s τ w) (x e : Nat) : AGB τ w x e := fun j _ _ => ⟨⟨⟨by rw [h.2.2.1 20 (by omega) (by omega)], by rw [h.2.2.1 23 (by omega) (by omega)]⟩, fun k _ _ => by rw [h.2.2.1 k (by omega) (by omega)], by rw [h.2.2.2.1], by rw [h.2.2.2.2]⟩, by rw [h.2.2.1 28 (by omega) (by omega)], by rw [h.2.2.1 29 (by omega) (by omega)], fun _ => by rw [h.2.2.1 30 (by omega) (by omega)]⟩
theorem XTB.src {f : Nat} {p : Int} {l m : List Nat} {τ τ' t : ST} (h : XTB f p l m τ' t) (hc : ∀ c, 20 ≤ c → c ≤ 30 → τ'.1 c = τ.1 c) (h1 : τ'.2.1 21 = τ.2.1 21) (h2 : τ'.2.1 22 = τ.2.1 22) : XTB f p l m τ t := by
  obtain ⟨⟨a1, a2, a3⟩, a4, a5, a6⟩ := h
  refine ⟨⟨fun i hi => ?_, fun i hi hp => ?_, fun i hp => ?_⟩, fun i hi hp => ?_, fun i hi hl => ?_, a6⟩
  · obtain ⟨g1, g2, g3, g4⟩ := a1 i hi
    refine ⟨by rw [← hc 20 (by omega) (by omega)]; exact g1, fun k k1 k5 => ?_, by rw [← h1]; exact g3, by rw [← h2]; exact g4⟩
    rw [← hc k (by omega) (by omega)]
    exact g2 k k1 k5
  · rw [← hc 23 (by omega) (by omega)]
    exact a2 i hi hp
  · rw [← hc 23 (by omega) (by omega)]
    exact a3 i hp
  · rw [← hc 28 (by omega) (by omega), ← hc 29 (by omega) (by omega)]
    exact a4 i hi hp
  · rw [← hc 30 (by omega) (by omega)]
    exact a5 i hi hl
theorem XTA.tgt {b e : Nat} {p : Int} {l m : List Nat} {σ s s' : ST} (h : XTA b e p l m σ s) (hc : ∀ c, b + 1 ≤ c → c ≤ b + 9 → s'.1 c = s.1 c) (h6 : s'.2.1 (b + 6) = s.2.1 (b + 6)) : XTA b e p l m σ s' := by
  obtain ⟨h1, h2, h3, h4⟩ := h
  refine ⟨fun i hi => ⟨fun k k1 k5 => ?_, ?_⟩, fun i hi hp => ?_, fun i hi hl => ?_, fun q hq => ?_⟩
  · rw [hc (b + k) (by omega) (by omega)]
    exact (h1 i hi).1 k k1 k5
  · rw [h6]
    exact (h1 i hi).2
  · rw [hc (b + 7) (by omega) (by omega), hc (b + 8) (by omega) (by omega)]
    exact h2 i hi hp
  · rw [hc (b + 9) (by omega) (by omega)]
    exact h3 i hi hl
  · rw [hc (b + 9) (by omega) (by omega), hc (b + 7) (by omega) (by omega), hc (b + 8) (by omega) (by omega)]
    exact h4 q hq
theorem XTB.tgt {f : Nat} {p : Int} {l m : List Nat} {τ t t' : ST} (h : XTB f p l m τ t) (hc : ∀ c, 20 ≤ c → c ≤ 30 → t'.1 c = t.1 c) (h1 : t'.2.1 21 = t.2.1 21) (h2 : t'.2.1 22 = t.2.1 22) : XTB f p l m τ t' := by
  obtain ⟨⟨a1, a2, a3⟩, a4, a5, a6⟩ := h
  refine ⟨⟨fun i hi => ?_, fun i hi hp => ?_, fun i hp => ?_⟩, fun i hi hp => ?_, fun i hi hl => ?_, fun q hq => ?_⟩
  · obtain ⟨g1, g2, g3, g4⟩ := a1 i hi
    refine ⟨by rw [hc 20 (by omega) (by omega)]; exact g1, fun k k1 k5 => ?_, by rw [h1]; exact g3, by rw [h2]; exact g4⟩
    rw [hc k (by omega) (by omega)]
    exact g2 k k1 k5
  · rw [hc 23 (by omega) (by omega)]
    exact a2 i hi hp
  · rw [hc 23 (by omega) (by omega)]
    exact a3 i hp
  · rw [hc 28 (by omega) (by omega), hc 29 (by omega) (by omega)]
    exact a4 i hi hp
  · rw [hc 30 (by omega) (by omega)]
    exact a5 i hi hl
  · rw [hc 30 (by omega) (by omega), hc 28 (by omega) (by omega), hc 29 (by omega) (by omega)]
    exact a6 q hq
/-- a value read from where both stood ahead of a step -/
theorem RVP.pre {b t m q L : Nat} {S T : ST} {tA tB : Int32} {x : Nat} {pa pl : Int32} {l k : List EN} {σ τ σ1 τ1 s w : ST} (h : RVP b t m q L S T tA tB x pa pl l k σ1 τ1 s w) (hT : TRE t σ σ1 τ τ1) (hS : SRK b L σ σ1) : RVP b t m q L S T tA tB x pa pl l k σ τ s w := by
  obtain ⟨e, h1, h2, h3, h4, ⟨h5, h6⟩, h7⟩ := h
  exact ⟨e, h1, h2, h3, h4, ⟨h5.src hT.1 hT.2.1, h6.src hT.2.2.1 hT.2.2.2.1 hT.2.2.2.2⟩, hS.trans h7⟩
theorem RVP.post {b t m q L : Nat} {S T : ST} {tA tB : Int32} {x : Nat} {pa pl : Int32} {l k : List EN} {σ τ s w s2 w2 : ST} (h : RVP b t m q L S T tA tB x pa pl l k σ τ s w) (hA : STP b s s2) (hB : STB w w2) : RVP b t m q L S T tA tB x pa pl l k σ τ s2 w2 := by
  obtain ⟨e, h1, h2, h3, ⟨⟨h4, h4b⟩, ⟨h4c, h4d⟩, h4e⟩, ⟨h5, h6⟩, h7⟩ := h
  have hT := ST.tre h1.1.1.1 hA hB
  refine ⟨e, h1.st hA hB, h2, h3.ext _ _ _ _ _ (hT.aga _ _) (hT.agb _ _), ⟨⟨?_, ?_⟩, ⟨?_, ?_⟩, ?_⟩, ⟨h5.tgt hT.1 hT.2.1, h6.tgt hT.2.2.1 hT.2.2.2.1 hT.2.2.2.2⟩, h7.trans hA.srk⟩
  · rw [hT.1 (t + 2) (by omega) (by omega)]
    exact h4
  · rw [hT.1 (t + 3) (by omega) (by omega)]
    exact h4b
  · rw [hT.2.2.1 24 (by omega) (by omega)]
    exact h4c
  · rw [hT.2.2.1 25 (by omega) (by omega)]
    exact h4d
  · rw [hT.1 (t + 5) (by omega) (by omega), hT.2.2.1 27 (by omega) (by omega)]
    exact h4e
/-- a branch's number and its value: what the value comes to is K1, what both come to K -/
theorem r_union {b t m p q : Nat} {S T : ST} {rT rF rL rO rR : FTK} {rb : FRD} {rI rS : FRI} (hS : RST p q S T) (hSS : RSS b t S) {L : Nat} (hL : L ≤ 30) (x u y v lev pa pl pb pl' : Int32) {d xr : Nat} (hlev : lev.toInt = L) (hX : TY p (T.1 8 p).toInt S T d x u) (hd : d ≤ 4) (h8 : (T.1 2 u.toNatClampNeg).toInt = 8) {σ τ : ST} (hC : RCX b t m S T σ τ xr) (hyv : y = -1 ∧ v = -1 ∨ ¬ y = -1 ∧ ∃ e, e ≤ 4 ∧ TY q (T.1 8 q).toInt S T e y v) {K : ST → ST → Prop} (hK : ∀ (xk uk : Int32) (d' : Nat) (σ1 τ1 : ST), TY p (T.1 8 p).toInt S T d' xk uk → d' ≤ 4 → ¬ (T.1 2 uk.toNatClampNeg).toInt = 8 → (¬ y = -1 → MS T uk v) → RCX b t m S T σ1 τ1 xr → TRE t σ σ1 τ τ1 → SRK b L σ σ1 → QT (rO b t xk y pa pl lev σ1) (fun s => QT (rb uk v lev pb pl' τ1) (ROUT b (fun s w => ∀ s2 w2, STP b s s2 → STB w w2 → K s2 w2) s))) : QT (f_X4_take_34 rT rF rL rO rR b t x y pa pl lev σ) (fun s => QT ((f_X11_readsInt (τ.1 0 64) 0 (((T.1 4 u.toNatClampNeg).toInt64) - 1) τ).bind fun q5 => if q5.1 = 0 then (some (0, q5.2)) else (if 0 ≤ ((4 * u) + ((q5.2.2.1 0 70).toInt32)).toInt ∧ ((4 * u) + ((q5.2.2.1 0 70).toInt32)).toInt < 3200 then (if v < 0 then (f_X11_reads_96 rb rI rS v lev pb pl' ((q5.2.2.1 0 70).toInt32) (q5.2.1 5 ((4 * u) + ((q5.2.2.1 0 70).toInt32)).toNatClampNeg) q5.2) else ((f_T_X11_match (q5.2.1 5 ((4 * u) + ((q5.2.2.1 0 70).toInt32)).toNatClampNeg) v q5.2).bind fun q8 => if q8.1 = 0 then ((f_X11_fails 13 (τ.1 0 64) q8.2).bind fun q10 => if q10.1 = 0 ∨ q10.1 = 1 then some (q10.1, q10.2) else none) else (f_X11_reads_96 rb rI rS v lev pb pl' ((q5.2.2.1 0 70).toInt32) (q5.2.1 5 ((4 * u) + ((q5.2.2.1 0 70).toInt32)).toNatClampNeg) q8.2))) else none)) (ROUT b K s)) := by
  have hb := hC.1.1.1
  have l0 := li_0
  have l1 := li_1
  have l8 := li_8
  have lm := li_m1
  have hn := hSS.2.2
  have ru := hX.rng
  cases d with
  | zero => exact hX.elim
  | succ d =>
  have hG := TG.of hX
  obtain ⟨mm, hm, hMm, hTk, _, _⟩ := hG.2.2.2.2.2 h8
  obtain ⟨hsA, _⟩ := hG.rA hn hC.1.1.kta
  have hXσ := hX.at hC.1.1.kta hC.1.2
  have k4 := (hC.1.1.kta 4 (by omega) (by omega)).1
  have hnσ : (σ.1 4 1).toInt ≤ 262 := by rw [k4]; exact hn
  have e4 : τ.1 4 = T.1 4 := hC.1.2.ty.2.2.1
  have e2 : τ.1 2 = T.1 2 := hC.1.2.ty.1
  unfold f_X4_take_34
  rw [hsA, sbnd]
  dsimp only
  refine QT.ite (fun _ => ?_) (fun h => absurd (Int32.toInt_inj.mp (h8.trans l8.symm)) h)
  rw [a4_branchesOf hnσ hXσ, sbnd]
  dsimp only
  rw [e4]
  have es := il_subE (x := T.1 4 u.toNatClampNeg) (y := 1) (by omega) (by omega)
  have z1 : (1 : Int64).toInt = 1 := by decide
  have emx : (T.1 4 u.toNatClampNeg - 1).toInt64 = (T.1 4 u.toNatClampNeg).toInt64 - 1 := by
    refine Int64.toInt_inj.mp ?_
    rw [i64, es, Int64.toInt_sub, i64, z1]
    rw [Int.bmod_eq_of_le (by omega) (by omega)]
    omega
  have emx2 : ((T.1 4 u.toNatClampNeg).toInt64 - 1).toInt = (mm : Int) - 1 := by
    rw [← emx, i64, es]
    omega
  rw [← hC.2.1.2.1.1]
  refine QT.bnd2 (rd_count hb (σ.1 b 5) _ _ emx σ τ hC.2.1) (fun q5 w hqw => ?_)
  rcases hqw with ⟨f1, f2⟩ | ⟨e0, hR, ⟨hA, hB⟩, e1, e2', e3⟩
  · refine QT.ite (fun h => absurd h f1) (fun _ => QT.ret ?_)
    exact QT.ite (fun _ => QT.ret (.inl ⟨f1, rfl⟩)) (fun h => absurd f2 h)
  refine QT.ite (fun _ => ?_) (fun h => absurd hR.1.1 h)
  obtain ⟨kk, σ1⟩ := q5
  obtain ⟨ok, τ1⟩ := w
  have hR : RPS b m σ1 τ1 := hR
  have hA : PMA b σ σ1 := hA
  have hB : PMB τ τ1 := hB
  have e1 : kk = (τ1.2.1 0 70).toInt32 := e1
  have e2' : 0 ≤ (τ1.2.1 0 70).toInt := e2'
  have e3 : (τ1.2.1 0 70).toInt ≤ ((T.1 4 u.toNatClampNeg).toInt64 - 1).toInt := e3
  have ei : kk.toInt = (τ1.2.1 0 70).toInt := by
    rw [e1]
    show (τ1.2.1 0 70).toInt32.toInt = _
    rw [Int64.toInt_toInt32]
    exact Int.bmod_eq_of_le (by omega) (by omega)
  obtain ⟨i, hi⟩ : ∃ i : Nat, kk.toInt = i := ⟨kk.toInt.toNat, by omega⟩
  have him : i < mm := by omega
  dsimp only
  rw [← e1]
  have hC1 : RCX b t m S T σ1 τ1 xr := hC.mv hR hA hB
  have hT1 : TRE t σ σ1 τ τ1 := PM.tre hb hA hB
  have hX1 := hX.at hC1.1.1.kta hC1.1.2
  have k4' := (hC1.1.1.kta 4 (by omega) (by omega)).1
  have k16 := (hC1.1.1.kta 16 (by omega) (by omega)).1
  have k17 := (hC1.1.1.kta 17 (by omega) (by omega)).1
  obtain ⟨c2, _, c4, c5, _⟩ := hC1.1.2.ty
  rw [a4_branchOf (by rw [k4']; exact hn) hX1 (by rw [c2]; exact h8) kk hi (by rw [c4, hMm]; omega), sbnd]
  dsimp only
  rw [k16, k17]
  obtain ⟨hTi, hn8⟩ := hTk i him
  have em := mlE (k := 4) (y := u) 4 li_4 (by omega) (by omega)
  have ea := il_addE (x := 4 * u) (y := kk) (by omega) (by omega)
  have na : (4 * u + kk).toNatClampNeg = 4 * u.toNatClampNeg + i := nC (by have := nN_ ru.2.1; omega)
  rw [na, c5]
  refine QT.sw ?_
  refine QT.ite (fun h => absurd (h.symm.trans e0) (by decide)) (fun _ => ?_)
  refine QT.grd (fun _ => ?_)
  refine QT.sw ?_
  refine QT.bnd (a_step b t (200 + kk) σ1) (fun σ2 hσ2 => ?_)
  -- the value itself, on both sides
  have val : (¬ y = -1 → MS T (T.1 5 (4 * u.toNatClampNeg + i)) v) → QT (f_X4_take_140 rT rF rL rO rR b t y pa pl lev (chn (S.1 17) (S.1 16 x.toNatClampNeg) i) σ2) (fun s => QT (f_X11_reads_96 rb rI rS v lev pb pl' kk (T.1 5 (4 * u.toNatClampNeg + i)) τ1) (ROUT b K s)) := fun hMS => by
    unfold f_X4_take_140 f_X11_reads_96
    refine QT.sw ?_
    refine QT.bnd (q_enters _ τ1) (fun τ2 hτ2 => ?_)
    refine QT.sw ?_
    have hC2 := hC1.st hσ2 hτ2
    refine QT.bnd2 (hK _ _ d σ2 τ2 hTi (by omega) hn8 hMS hC2 (hT1.trans (ST.tre hb hσ2 hτ2)) (hA.srk.trans hσ2.srk)) (fun s w hsw => ?_)
    refine QT.bnd (a_stepBack b t s) (fun s2 hs2 => QT.ret (QT.grd (fun _ => QT.ret ?_)))
    exact hsw.back hs2 (fun z hz h => h s2 z hs2 hz)
  rcases hyv with ⟨hy, hv⟩ | ⟨hy, e, he, hY⟩
  · refine QT.ite (fun _ => ?_) (fun h => absurd hy h)
    refine QT.sw ?_
    refine QT.ilt (fun _ => ?_) (fun h => by rw [hv] at h; omega)
    refine QT.sw ?_
    exact val (fun h => absurd hy h)
  · have rv := hY.rng
    refine QT.ite (fun h => absurd h hy) (fun _ => ?_)
    refine QT.sw ?_
    refine QT.ilt (fun h => by omega) (fun _ => ?_)
    refine QT.sw ?_
    have kA2 : KRA b t S σ2 := hC1.1.1.trans (hσ2.kra hb)
    refine QT.bndR (rx_fits hS kA2 hC1.1.2 (chn (S.1 17) (S.1 16 x.toNatClampNeg) i) y (T.1 5 (4 * u.toNatClampNeg + i)) v d e hTi hY (by omega) he) (fun zf hzf => ?_)
    dsimp only
    refine QT.sw ?_
    refine QT.bndR hzf (fun kf hkf => ?_)
    dsimp only
    refine QT.ieq (fun hk0 => ?_) (fun hk0 => ?_)
    · refine QT.bnd (q_fails 13 _ τ1) (fun v' hv' => QT.grd (fun _ => QT.ret ?_))
      refine QT.ieq (fun _ => ?_) (fun h => by rcases hkf with h9 | h9 <;> omega)
      exact QT.bnd (a_failed hb 13 _ σ2 (by decide)) (fun s hs => QT.ret (.inl ⟨hs, hv'⟩))
    · refine QT.sw ?_
      rcases hkf with ⟨_, h9⟩ | ⟨h9, _, hMS⟩
      · omega
      · refine QT.ieq (fun h => by omega) (fun _ => ?_)
        exact val (fun _ => hMS)
/-! reading, both sides: level by level -/
theorem ctk_top {b t m p q : Nat} {S T : ST} {rT rF rL rO rR : FTK} {rb : FRD} {rI rS : FRI} (hS : RST p q S T) (hSS : RSS b t S) (hO1s : cOWS b t m p q S T rO rb) (hO1n : cOWN b t m p q S T rO rb) (hO2s : cOWS b t m p q S T rO (f_X11_reads rb rI rS)) (hO2n : cOWN b t m p q S T rO (f_X11_reads rb rI rS)) (hE : cEMP b t m p q S T (f_X11_reads rb rI rS)) : cTK b t m p q S T (f_X4_take rT rF rL rO rR) (f_X11_reads rb rI rS) := by
  intro x u lev L d xr σ τ hX hd hlev hL31 hC
  have hb := hC.1.1.1
  have l8 := li_8
  have lm := li_m1
  have l31 : (31 : Int32).toInt = 31 := by decide
  have e2 : τ.1 2 = T.1 2 := hC.1.2.ty.1
  have e4 : τ.1 4 = T.1 4 := hC.1.2.ty.2.2.1
  have ru := hX.rng
  have hn := hSS.2.2
  obtain ⟨d1, hd1⟩ : ∃ d1, d = d1 + 1 := by
    cases d with
    | zero => exact hX.elim
    | succ d1 => exact ⟨d1, rfl⟩
  subst hd1
  have hG := TG.of hX
  obtain ⟨hsA, _⟩ := hG.rA hn hC.1.1.kta
  have deep : ∀ (y pa pl v pb pl' : Int32) (K : ST → ST → Prop), ¬ lev.toInt < 31 → QT ((f_X4_fail b t 16 (σ.1 b 5) σ).bind fun q3 => some q3) (fun s => QT (f_X11_reads rb rI rS u v lev pb pl' τ) (ROUT b K s)) := fun y pa pl v pb pl' K h31 => by
    refine QT.bnd (a_failed hb 16 _ σ (by decide)) (fun s hs => QT.ret ?_)
    unfold f_X11_reads
    refine QT.ilt (fun h => by omega) (fun _ => ?_)
    exact QT.bnd (q_fails 16 _ τ) (fun w hw => QT.grd (fun _ => QT.ret (.inl ⟨hs, hw⟩)))
  refine ⟨fun pa pl pb pl' => ?_, fun y v pa pl e l k hy hY he hM hP => ?_⟩
  · unfold f_X4_take
    refine QT.ilt (fun h31 => ?_) (fun h31 => deep (-1) pa pl (-1) pb pl' _ (by omega))
    have hL : L ≤ 30 := by omega
    refine QT.ite (fun _ => ?_) (fun h => absurd rfl h)
    refine QT.bnd (hE x u lev L (d1 + 1) xr σ τ hL hlev hX hd hC) (fun q1 hq1 => ?_)
    obtain ⟨h1, h2⟩ := hq1
    rw [h1]
    refine QT.ite (fun _ => ?_) (fun h0 => QT.ret ((h2 h0 pb pl').mono (fun w hw => .inr hw)))
    by_cases h8 : (T.1 2 u.toNatClampNeg).toInt = 8
    · unfold f_X11_reads
      refine QT.sw ?_
      refine QT.ilt (fun _ => ?_) (fun h => by omega)
      refine QT.grd (fun _ => ?_)
      rw [e2, e4]
      refine QT.ieq (fun _ => ?_) (fun h => by omega)
      refine QT.sw ?_
      refine r_union hS hSS hL x u (-1) (-1) lev pa pl pb pl' hlev hX hd h8 hC (.inl ⟨rfl, rfl⟩) (fun xk uk d' σ1 τ1 hTk hd' h8k _ hC1 hT1 hS1 => ?_)
      cases d' with
      | zero => exact hTk.elim
      | succ d' =>
        refine (hO1s xk uk lev pa pl pb pl' L d' xr σ1 τ1 hL hlev (TG.of hTk) (by omega) h8k hC1).mono2 (fun s w hw => hw.imp (fun h s2 w2 hA hB => ?_))
        exact ⟨h.1.st hA hB, hT1.trans (h.2.1.trans (ST.tre hb hA hB)), hS1.trans (h.2.2.trans hA.srk)⟩
    · unfold f_X4_take_34
      rw [hsA, sbnd]
      dsimp only
      refine QT.ieq (fun h => by omega) (fun _ => ?_)
      exact QT.bnd (hO2s x u lev pa pl pb pl' L d1 xr σ τ hL hlev hG (by omega) h8 hC) (fun s hs => QT.ret hs)
  · have rv := hY.rng
    unfold f_X4_take
    refine QT.ilt (fun h31 => ?_) (fun h31 => deep y pa pl v pa pl _ (by omega))
    have hL : L ≤ 30 := by omega
    refine QT.ite (fun h => absurd h hy) (fun _ => ?_)
    by_cases h8 : (T.1 2 u.toNatClampNeg).toInt = 8
    · unfold f_X11_reads
      refine QT.sw ?_
      refine QT.ilt (fun _ => ?_) (fun h => by omega)
      refine QT.grd (fun _ => ?_)
      rw [e2, e4]
      refine QT.ieq (fun _ => ?_) (fun h => by omega)
      refine QT.sw ?_
      refine r_union hS hSS hL x u y v lev pa pl pa pl hlev hX hd h8 hC (.inr ⟨hy, e, he, hY⟩) (fun xk uk d' σ1 τ1 hTk hd' h8k hMS hC1 hT1 hS1 => ?_)
      refine (hO1n xk uk y v lev pa pl L d' e xr l k σ1 τ1 hL hlev hTk hd' h8k hY he (hMS hy) hC1 (hP.mv hT1)).mono2 (fun s w hw => hw.imp (fun h s2 w2 hA hB => ?_))
      exact (h.pre hT1 hS1).post hA hB
    · unfold f_X4_take_34
      rw [hsA, sbnd]
      dsimp only
      refine QT.ieq (fun h => by omega) (fun _ => ?_)
      exact QT.bnd (hO2n x u y v lev pa pl L (d1 + 1) e xr l k σ τ hL hlev hX hd h8 hY he hM hC hP) (fun s hs => QT.ret hs)
/-- all of a level -/
def CKN (b t m p q : Nat) (S T : ST) (N : Nat) : Prop := (∀ M, cTK b t m p q S T (R_X4_take N).1 (R_X11_reads M).1) ∧ (∀ M, cFLS b t m p q S T (R_X4_take N).2.1 (R_X11_reads M).1 ∧ cFLN b t m p q S T (R_X4_take N).2.1 (R_X11_reads M).1) ∧ (∀ M, cLSS b t m p q S T (R_X4_take N).2.2.1 (R_X11_reads M).2.1 ∧ cLSN b t m p q S T (R_X4_take N).2.2.1 (R_X11_reads M).2.1) ∧ (∀ M, cOWS b t m p q S T (R_X4_take N).2.2.2.1 (R_X11_reads M).1 ∧ cOWN b t m p q S T (R_X4_take N).2.2.2.1 (R_X11_reads M).1) ∧ (∀ M, cRCS b t m p q S T (R_X4_take N).2.2.2.2 (R_X11_reads M).2.2 ∧ cRCN b t m p q S T (R_X4_take N).2.2.2.2 (R_X11_reads M).2.2) ∧ cFUL b t (R_X4_take N).2.2.1 ∧ cFUL b t (R_X4_take N).2.2.2.2
theorem ck_all {b t m p q : Nat} {S T : ST} (hb : BT b t) (hS : RST p q S T) (hSS : RSS b t S) (hE : ∀ M, cEMP b t m p q S T (R_X11_reads M).1) : ∀ N, CKN b t m p q S T N := by
  intro N
  induction N with
  | zero =>
    refine ⟨fun M => ?_, fun M => ⟨?_, ?_⟩, fun M => ⟨?_, ?_⟩, fun M => ⟨?_, ?_⟩, fun M => ⟨?_, ?_⟩, ?_, ?_⟩
    · intro x u lev L d xr σ τ _ _ _ _ _
      exact ⟨fun _ _ _ _ => QT.none, fun _ _ _ _ _ _ _ _ _ _ _ _ => QT.none⟩
    · intro x u lev fi row L d xr σ τ _ _ _ _ _ pb pl'
      exact QT.none
    · intro xR yR u uB lev x5 x6 fi x8 row p0 L w r mW mR i x e z n0 a t1 σ τ l _ _ _ _ _ _ _ _ _ _ _ _ _ _ _ _
      exact QT.none
    · intro x1 u lev pa pl xB L d x σ τ _ _ _ _ _ _
      exact QT.none
    · intro x1 u lev xB tA tB uA uB so br pa pl L d e0 x l k σ τ τ1 _ _ _ _ _ _ _ _ _ _
      exact QT.none
    · intro x u lev pa pl pb pl' L d xr σ τ _ _ _ _ _ _
      exact QT.none
    · intro x u y v lev pa pl L d e0 xr l k σ τ _ _ _ _ _ _ _ _ _ _
      exact QT.none
    · intro xR u lev pa pl xB L w mW x σ τ _ _ _ _ _ _ _ _
      exact QT.none
    · intro xR u lev xB tA tB uA uB so br pa pl L w r mW mR x l k σ τ τ1 _ _ _ _ _ _
      exact QT.none
    · intro x1 uA pa pl lev σ _ _
      exact QT.none
    · intro x1 uA pa pl lev σ _ _
      exact QT.none
  | succ N ih =>
    obtain ⟨i1, i2, i3, i4, i5, i6, i7⟩ := ih
    refine ⟨fun M => ?_, fun M => ⟨cfls_top (i1 M), cfln_top hS (i1 M)⟩, fun M => ⟨?_, ?_⟩, fun M => ⟨?_, ?_⟩, fun M => ⟨?_, ?_⟩, fun x1 uA pa pl lev σ h1 h2 => f_list hb x1 uA pa pl lev h1 h2, fun x1 uA pa pl lev σ h1 h2 => f_rec hb x1 uA pa pl lev h1 h2⟩
    · cases M with
      | zero =>
        intro x u lev L d xr σ τ _ _ _ _ _
        exact ⟨fun _ _ _ _ s _ => QT.none, fun _ _ _ _ _ _ _ _ _ _ _ _ s _ => QT.none⟩
      | succ M => exact ctk_top hS hSS (i4 M).1 (i4 M).2 (i4 (M + 1)).1 (i4 (M + 1)).2 (hE (M + 1))
    · cases M with
      | zero =>
        intro x1 u lev pa pl xB L d x σ τ _ _ _ _ _ _ s _
        exact QT.none
      | succ M =>
        intro x1 u lev pa pl xB L d x σ τ hL hlev hX hd hu hC
        exact r_list (i1 M) hL x1 u lev pa pl xB hlev hX hd hu σ τ hC
    · cases M with
      | zero =>
        intro x1 u lev xB tA tB uA uB so br pa pl L d e0 x l k σ τ τ1 _ _ _ _ _ _ _ _ _ _ s _
        exact QT.none
      | succ M =>
        intro x1 u lev xB tA tB uA uB so br pa pl L d e0 x l k σ τ τ1 hL hlev hN h6 hX hd hY he hM hu
        obtain ⟨⟨a1, a2, a3⟩, ⟨a4, a5⟩, ⟨a6, a7, a8⟩, a9, a10, a11⟩ := hN
        exact r_listn (i1 M) hL a1 a2 a3 hSS x1 u lev xB a4 a5 hlev hX hd hY he hM hu a6 a7 h6 a8 a9 a10 a11
    · cases M with
      | zero =>
        intro x u lev pa pl pb pl' L d xr σ τ _ _ _ _ _ _ s _
        exact QT.none
      | succ M => exact cows_top hS hSS (i3 M).1 (i5 M).1
    · cases M with
      | zero =>
        intro x u y v lev pa pl L d e0 xr l k σ τ _ _ _ _ _ _ _ _ _ _ s _
        exact QT.none
      | succ M => exact cown_top hS hSS (i3 M).2 (i5 M).2 i6 i7
    · cases M with
      | zero =>
        intro xR u lev pa pl xB L w mW x σ τ _ _ _ _ _ _ _ _ s _
        exact QT.none
      | succ M =>
        intro xR u lev pa pl xB L w mW x σ τ hL hlev hx hu hu3 hw hmW hC
        exact r_rec hS (i2 M).1 hL xR u lev pa pl xB hlev hx hu hu3 hw hmW σ τ hC
    · cases M with
      | zero =>
        intro xR u lev xB tA tB uA uB so br pa pl L w r mW mR x l k σ τ τ1 _ _ _ _ _ _ s _
        exact QT.none
      | succ M =>
        intro xR u lev xB tA tB uA uB so br pa pl L w r mW mR x l k σ τ τ1 hL hlev hN h7 hRP hu
        obtain ⟨⟨a1, a2, a3⟩, ⟨a4, a5⟩, ⟨a6, a7, a8⟩, a9, a10, a11⟩ := hN
        exact r_recn hS hSS (i2 M).2 hL a1 a2 a3 xR u lev xB a4 a5 hlev hRP hu a6 a7 h7 a8 a9 a10 a11
/-! records of no bytes: how high the class tells them -/
/-- a type of no bytes, so high at the most -/
def EHT (S : ST) (x : Int32) (h : Int) : Prop := ((S.1 15 x.toNatClampNeg).toInt = 0 ∧ 0 ≤ h) ∨ ((S.1 15 x.toNatClampNeg).toInt = 7 ∧ ∃ r : Nat, r < 36 ∧ (S.1 16 x.toNatClampNeg).toInt = r ∧ 1 ≤ (S.1 10 r).toInt ∧ (S.1 10 r).toInt ≤ h)
/-- the heights told, up to n -/
def EHB (S : ST) (n : Int) : Prop := ∀ r : Nat, r < 36 → S.1 10 r = -1 ∨ ((1 ≤ (S.1 10 r).toInt ∧ (S.1 10 r).toInt ≤ n) ∧ ∀ j : Nat, (j : Int) < (S.1 7 r).toInt → EHT S (S.1 13 (8 * r + j)) ((S.1 10 r).toInt - 1))
def EHX (S : ST) : Prop := EHB S 1296
theorem EHT.up {S : ST} {x : Int32} {h k : Int} (H : EHT S x h) (hk : h ≤ k) : EHT S x k := by
  rcases H with ⟨a, b⟩ | ⟨a, r, b, c, d, e⟩
  · exact .inl ⟨a, by omega⟩
  · exact .inr ⟨a, r, b, c, d, by omega⟩
theorem EHB.up {S : ST} {m n : Int} (H : EHB S m) (hk : m ≤ n) : EHB S n := fun r hr => (H r hr).imp id (fun h => ⟨⟨h.1.1, by have := h.1.2; omega⟩, h.2⟩)
theorem EHT.at {S σ : ST} {x : Int32} {h : Int} (H : EHT S x h) (k : KTA S σ) : EHT σ x h := by
  unfold EHT at H ⊢
  rw [(k 15 (by omega) (by omega)).1, (k 16 (by omega) (by omega)).1, (k 10 (by omega) (by omega)).1]
  exact H
theorem EHT.ba {S σ : ST} {x : Int32} {h : Int} (H : EHT σ x h) (k : KTA S σ) : EHT S x h := by
  unfold EHT at H ⊢
  rw [(k 15 (by omega) (by omega)).1, (k 16 (by omega) (by omega)).1, (k 10 (by omega) (by omega)).1] at H
  exact H
theorem EHB.at {S σ : ST} {n : Int} (H : EHB S n) (k : KTA S σ) : EHB σ n := by
  intro r hr
  have := H r hr
  rw [(k 10 (by omega) (by omega)).1, (k 7 (by omega) (by omega)).1, (k 13 (by omega) (by omega)).1]
  exact this.imp id (fun h => ⟨h.1, fun j hj => (h.2 j hj).at k⟩)
theorem qa_isType (x : Int32) (σ : ST) : QT (f_X5_isType 4 x σ) (fun q => q.2 = σ) := by
  unfold f_X5_isType
  exact QT.ite (fun _ => QT.ret rfl) (fun _ => QT.ite (fun _ => QT.ret rfl) (fun _ => QT.ite (fun _ => QT.ret rfl) (fun _ => QT.ret rfl)))
theorem qa_sortOf (x : Int32) (σ : ST) : QT (f_X5_sortOf 4 x σ) (fun q => q.2 = σ ∧ (q.1 = -1 ∨ q.1 = σ.1 15 x.toNatClampNeg)) := by
  unfold f_X5_sortOf
  refine QT.bnd (qa_isType x σ) (fun q hq => ?_)
  obtain ⟨v, s⟩ := q
  have e : s = σ := hq
  rw [e]
  exact QT.ite (fun _ => QT.ret ⟨rfl, .inl rfl⟩) (fun _ => QT.grd (fun _ => QT.ret ⟨rfl, .inr rfl⟩))
theorem qa_innerOf (x : Int32) (σ : ST) : QT (f_X5_innerOf 4 x σ) (fun q => q.2 = σ ∧ (q.1 = -1 ∨ q.1 = σ.1 16 x.toNatClampNeg)) := by
  unfold f_X5_innerOf
  refine QT.bnd (qa_isType x σ) (fun q hq => ?_)
  obtain ⟨v, s⟩ := q
  have e : s = σ := hq
  rw [e]
  exact QT.ite (fun _ => QT.ret ⟨rfl, .inl rfl⟩) (fun _ => QT.grd (fun _ => QT.ret ⟨rfl, .inr rfl⟩))
theorem qa_isRecord (x : Int32) (σ : ST) : QT (f_X5_isRecord x σ) (fun q => q.2 = σ) := by
  unfold f_X5_isRecord
  exact QT.ite (fun _ => QT.ret rfl) (fun _ => QT.ite (fun _ => QT.ret rfl) (fun _ => QT.ret rfl))
theorem a_eh {n : Int} (x : Int32) (σ : ST) (hE : EHB σ n) : QT (f_X5_emptyHeight 4 x σ) (fun q => q.2 = σ ∧ (q.1 = -1 ∨ (EHT σ x q.1.toInt ∧ 0 ≤ q.1.toInt ∧ (q.1.toInt ≤ n ∨ q.1.toInt = 0)))) := by
  have l0 := li_0
  have l7 := li_7
  have lm := li_m1
  unfold f_X5_emptyHeight
  refine QT.bnd (qa_sortOf x σ) (fun q1 h1 => ?_)
  obtain ⟨v1, s1⟩ := q1
  obtain ⟨e, h1⟩ := h1
  have e : s1 = σ := e
  have h1 : v1 = -1 ∨ v1 = σ.1 15 x.toNatClampNeg := h1
  rw [e]
  dsimp only
  refine QT.ite (fun h0 => QT.ret ?_) (fun h0 => ?_)
  · have e15 : (σ.1 15 x.toNatClampNeg).toInt = 0 := by
      rcases h1 with h1 | h1
      · rw [h1] at h0
        exact absurd h0 (by decide)
      · rw [← h1, h0]
        exact l0
    exact ⟨rfl, .inr ⟨.inl ⟨e15, by rw [l0]; omega⟩, by rw [l0]; omega, .inr l0⟩⟩
  refine QT.bnd (qa_innerOf x σ) (fun q2 h2 => ?_)
  obtain ⟨v2, s2⟩ := q2
  obtain ⟨e, h2⟩ := h2
  have e : s2 = σ := e
  have h2 : v2 = -1 ∨ v2 = σ.1 16 x.toNatClampNeg := h2
  rw [e]
  dsimp only
  refine QT.bnd (qa_sortOf x σ) (fun q3 h3 => ?_)
  obtain ⟨v3, s3⟩ := q3
  obtain ⟨e, h3⟩ := h3
  have e : s3 = σ := e
  have h3 : v3 = -1 ∨ v3 = σ.1 15 x.toNatClampNeg := h3
  rw [e]
  dsimp only
  refine QT.ite (fun h7 => ?_) (fun _ => QT.ret ⟨rfl, .inl rfl⟩)
  have e15 : (σ.1 15 x.toNatClampNeg).toInt = 7 := by
    rcases h3 with h3 | h3
    · rw [h3] at h7
      exact absurd h7 (by decide)
    · rw [← h3, h7]
      exact l7
  refine QT.bnd (qa_isRecord v2 σ) (fun q4 h4 => ?_)
  obtain ⟨v4, s4⟩ := q4
  have e : s4 = σ := h4
  rw [e]
  dsimp only
  refine QT.ite (fun _ => QT.ret ⟨rfl, .inl rfl⟩) (fun _ => QT.grd (fun hr => QT.ret ⟨rfl, ?_⟩))
  show σ.1 10 v2.toNatClampNeg = -1 ∨ _
  have nr := nN_ hr.1
  have e16 : v2 = σ.1 16 x.toNatClampNeg := by
    rcases h2 with h2 | h2
    · rw [h2] at hr
      omega
    · exact h2
  rcases hE v2.toNatClampNeg (by omega) with h | ⟨⟨a, b⟩, _⟩
  · exact .inl h
  · refine .inr ⟨.inr ⟨e15, v2.toNatClampNeg, by omega, ?_, a, Int.le_refl _⟩, ?_, .inl b⟩
    · rw [← e16]
      omega
    · show 0 ≤ (σ.1 10 v2.toNatClampNeg).toInt
      omega
/-- the height of a record by those of its fields -/
theorem a_hof {n : Int} {σ : ST} (hE : EHB σ n) (hn : 0 ≤ n ∧ n ≤ 1296) (x1 : Int32) {r : Nat} (h1 : x1.toInt = r) (hr : r < 36) (h8 : (σ.1 7 r).toInt ≤ 8) : ∀ (N i : Nat) (x2 x3 : Int32), x3.toInt = i → (0 ≤ x2.toInt ∧ x2.toInt ≤ n) → (∀ j : Nat, j < i → EHT σ (σ.1 13 (8 * r + j)) x2.toInt) → QT (f_X5_heightOfFields_4 4 N x1 x2 x3 σ) (fun q => q.2 = σ ∧ (q.1 = -1 ∨ ((1 ≤ q.1.toInt ∧ q.1.toInt ≤ n + 1) ∧ ∀ j : Nat, (j : Int) < (σ.1 7 r).toInt → EHT σ (σ.1 13 (8 * r + j)) (q.1.toInt - 1)))) := by
  have l0 := li_0
  have l1 := li_1
  have lm := li_m1
  intro N
  induction N with
  | zero =>
    intro i x2 x3 _ _ _
    rw [f_X5_heightOfFields_4]
    exact QT.none
  | succ N ih =>
    intro i x2 x3 h3 h2 hj
    rw [f_X5_heightOfFields_4, a4_fieldsOf x1 σ h1 hr, sbnd]
    dsimp only
    refine QT.ile (fun hle => QT.ret ⟨rfl, .inr ?_⟩) (fun hlt => ?_)
    · have e := il_addE (x := x2) (y := 1) (by omega) (by omega)
      show (1 ≤ (x2 + 1).toInt ∧ (x2 + 1).toInt ≤ n + 1) ∧ ∀ j : Nat, (j : Int) < (σ.1 7 r).toInt → EHT σ (σ.1 13 (8 * r + j)) ((x2 + 1).toInt - 1)
      exact ⟨by omega, fun j hj' => (hj j (by omega)).up (by omega)⟩
    · rw [a4_typeOf x1 x3 σ h1 h3 hr (by omega), sbnd]
      dsimp only
      refine QT.bnd (a_eh (σ.1 13 (8 * r + i)) σ hE) (fun q hq => ?_)
      obtain ⟨v, s⟩ := q
      obtain ⟨e, hv⟩ := hq
      have e : s = σ := e
      have hv : v = -1 ∨ (EHT σ (σ.1 13 (8 * r + i)) v.toInt ∧ 0 ≤ v.toInt ∧ (v.toInt ≤ n ∨ v.toInt = 0)) := hv
      rw [e]
      dsimp only
      refine QT.ite (fun _ => QT.ret ⟨rfl, .inl rfl⟩) (fun hne => ?_)
      have hv := hv.resolve_left hne
      have e3 := il_addE (x := x3) (y := 1) (by omega) (by omega)
      by_cases hc : x2 < v
      · have hc' := il_lt hc
        rw [if_pos hc]
        refine ih (i + 1) v (x3 + 1) (by omega) (by omega) (fun j hj' => ?_)
        by_cases hji : j = i
        · rw [hji]
          exact hv.1
        · exact (hj j (by omega)).up (by omega)
      · have hc' := il_nlt hc
        rw [if_neg hc]
        refine ih (i + 1) x2 (x3 + 1) (by omega) h2 (fun j hj' => ?_)
        by_cases hji : j = i
        · rw [hji]
          exact hv.1.up (by omega)
        · exact hj j (by omega)
/-- all but the heights -/
def E10 (σ w : ST) : Prop := (∀ c, c ≠ 10 → w.1 c = σ.1 c) ∧ w.2 = σ.2
theorem E10.rf {σ : ST} : E10 σ σ := ⟨fun _ _ => rfl, rfl⟩
theorem E10.i {σ w : ST} {r : Nat} {v : Int32} (h : E10 σ w) : E10 σ (stI w 10 r v) := ⟨fun c hc => (stI_ne hc).trans (h.1 c hc), h.2⟩
/-- one more height told -/
theorem EHB.set {w : ST} {n : Int} {r : Nat} {v : Int32} (hE : EHB w n) (hr : r < 36) (hw : w.1 10 r = -1) (hv : v = -1 ∨ ((1 ≤ v.toInt ∧ v.toInt ≤ n + 1) ∧ ∀ j : Nat, (j : Int) < (w.1 7 r).toInt → EHT w (w.1 13 (8 * r + j)) (v.toInt - 1))) : EHB (stI w 10 r v) (n + 1) := by
  have lm := li_m1
  have e7 : (stI w 10 r v).1 7 = w.1 7 := stI_ne (by decide)
  have e13 : (stI w 10 r v).1 13 = w.1 13 := stI_ne (by decide)
  have e15 : (stI w 10 r v).1 15 = w.1 15 := stI_ne (by decide)
  have e16 : (stI w 10 r v).1 16 = w.1 16 := stI_ne (by decide)
  have ne : ∀ i, i ≠ r → (stI w 10 r v).1 10 i = w.1 10 i := fun i hi => by rw [stI_at, upN hi]
  have eq : (stI w 10 r v).1 10 r = v := by rw [stI_at, upA rfl]
  have kT : ∀ (x : Int32) (h : Int), EHT w x h → EHT (stI w 10 r v) x h := fun x h H => by
    unfold EHT at H ⊢
    rw [e15, e16]
    rcases H with H | ⟨a, i, b, c, d, e⟩
    · exact .inl H
    · have hi : i ≠ r := fun hi => by
        rw [hi, hw] at d
        omega
      exact .inr ⟨a, i, b, c, by rw [ne i hi]; exact ⟨d, e⟩⟩
  intro i hi
  rw [e7, e13]
  by_cases hir : i = r
  · rw [hir, eq]
    exact hv.imp id (fun h => ⟨h.1, fun j hj => kT _ _ (h.2 j hj)⟩)
  · rw [ne i hir]
    exact (hE i hi).imp id (fun h => ⟨⟨h.1.1, by have := h.1.2; omega⟩, fun j hj => kT _ _ (h.2 j hj)⟩)
theorem a_fer28 {k10 : Int32 → ST → Option ST} {k18 : Int32 → Int32 → ST → Option ST} {σ : ST} (hrec : ∀ i, bI (σ.1 5 i) 0 36) (hfld : ∀ i, bI (σ.1 7 i) 0 8) (x1 x2 : Int32) {a p : Nat} (h1 : x1.toInt = a) (h2 : x2.toInt = p) (ha : a < 6) (hp : p < 6) {P : ST → Prop} (hk : ∀ w, E10 σ w → EHB w (216 * a + 36 * (p + 1)) → QT (k18 x1 (x2 + 1) w) P) : ∀ (N k : Nat) (x3 : Int32) (w : ST), x3.toInt = k → k ≤ 36 → E10 σ w → EHB w (216 * a + 36 * p + k) → QT (f_X5_findEmptyRecords_28 k10 k18 4 N x1 x2 x3 w) P := by
  have l0 := li_0
  have l1 := li_1
  have l6 := li_6
  intro N
  induction N with
  | zero =>
    intro k x3 w _ _ _ _
    rw [f_X5_findEmptyRecords_28]
    exact QT.none
  | succ N ih =>
    intro k x3 w h3 hk36 hw hE
    have e5 : w.1 5 = σ.1 5 := hw.1 5 (by decide)
    have e7 : w.1 7 = σ.1 7 := hw.1 7 (by decide)
    have n2 : x2.toNatClampNeg = p := nC (by omega)
    rw [f_X5_findEmptyRecords_28]
    have hro : f_X5_recordsOf 4 x2 w = some (w.1 5 p, w) := by
      unfold f_X5_recordsOf
      rw [if_neg (by rw [Int32.lt_iff_toInt_lt]; omega), if_neg (by rw [Int32.le_iff_toInt_le]; omega), if_pos (by omega), n2]
    rw [hro, sbnd]
    dsimp only
    have hb := hrec p
    unfold bI at hb
    rw [e5]
    refine QT.ile (fun _ => hk w hw (hE.up (by omega))) (fun hlt => ?_)
    have em : (x2 * 6).toInt = 6 * x2.toInt := by rw [Int32.mul_comm]; exact mlE (k := 6) (y := x2) 6 l6 (by omega) (by omega)
    have ea := il_addE (x := x2 * 6) (y := x3) (by omega) (by omega)
    have e3 := il_addE (x := x3) (y := 1) (by omega) (by omega)
    have nr : (x2 * 6 + x3).toNatClampNeg = 6 * p + k := nC (by omega)
    refine QT.bnd (qa_isRecord (x2 * 6 + x3) w) (fun q hq => ?_)
    obtain ⟨v, s⟩ := q
    have e : s = w := hq
    rw [e]
    dsimp only
    unfold f_X5_findEmptyRecords_77
    refine QT.ite (fun _ => ih (k + 1) (x3 + 1) w (by omega) (by omega) hw (hE.up (by omega))) (fun _ => ?_)
    refine QT.grd (fun hr => ?_)
    refine QT.ite (fun hm1 => ?_) (fun _ => ih (k + 1) (x3 + 1) w (by omega) (by omega) hw (hE.up (by omega)))
    have hm1 : w.1 10 (x2 * 6 + x3).toNatClampNeg = -1 := hm1
    have h8 := hfld (6 * p + k)
    unfold bI at h8
    unfold f_X5_heightOfFields
    refine QT.bnd (a_hof hE (by omega) (x2 * 6 + x3) (r := 6 * p + k) (by omega) (by omega) (by rw [e7]; exact h8.2) FU 0 0 0 l0 (by omega) (fun j hj => by omega)) (fun q2 h2 => ?_)
    obtain ⟨v2, s2⟩ := q2
    obtain ⟨e, hv⟩ := h2
    have e : s2 = w := e
    rw [e]
    dsimp only
    rw [nr] at hm1 ⊢
    refine ih (k + 1) (x3 + 1) (stI w 10 (6 * p + k) v2) (by omega) (by omega) hw.i ?_
    have := EHB.set hE (r := 6 * p + k) (v := v2) (by omega) hm1 hv
    exact this.up (by omega)
theorem a_fer18 {k10 : Int32 → ST → Option ST} {σ : ST} (hpl : bI (σ.1 4 0) 0 6) (hrec : ∀ i, bI (σ.1 5 i) 0 36) (hfld : ∀ i, bI (σ.1 7 i) 0 8) (x1 : Int32) {a : Nat} (h1 : x1.toInt = a) (ha : a < 6) {P : ST → Prop} (hk : ∀ w, E10 σ w → EHB w (216 * (a + 1)) → QT (k10 (x1 + 1) w) P) : ∀ (N p : Nat) (x2 : Int32) (w : ST), x2.toInt = p → p ≤ 6 → E10 σ w → EHB w (216 * a + 36 * p) → QT (f_X5_findEmptyRecords_18 k10 4 N x1 x2 w) P := by
  have l0 := li_0
  have l1 := li_1
  intro N
  induction N with
  | zero =>
    intro p x2 w _ _ _ _
    rw [f_X5_findEmptyRecords_18]
    exact QT.none
  | succ N ih =>
    intro p x2 w h2 hp6 hw hE
    have e4 : w.1 4 = σ.1 4 := hw.1 4 (by decide)
    rw [f_X5_findEmptyRecords_18, e4]
    unfold bI at hpl
    refine QT.ile (fun _ => hk w hw (hE.up (by omega))) (fun hlt => ?_)
    have e2 := il_addE (x := x2) (y := 1) (by omega) (by omega)
    exact a_fer28 hrec hfld x1 x2 h1 h2 ha (by omega) (fun w' hw' hE' => ih (p + 1) (x2 + 1) w' (by omega) (by omega) hw' (hE'.up (by omega))) FU 0 0 w l0 (by omega) hw (hE.up (by omega))
theorem a_fer10 {σ : ST} (hpl : bI (σ.1 4 0) 0 6) (hrec : ∀ i, bI (σ.1 5 i) 0 36) (hfld : ∀ i, bI (σ.1 7 i) 0 8) : ∀ (N a : Nat) (x1 : Int32) (w : ST), x1.toInt = a → a ≤ 6 → E10 σ w → EHB w (216 * a) → QT (f_X5_findEmptyRecords_10 4 N x1 w) (fun z => E10 σ z ∧ EHX z) := by
  have l0 := li_0
  have l1 := li_1
  have l6 := li_6
  intro N
  induction N with
  | zero =>
    intro a x1 w _ _ _ _
    rw [f_X5_findEmptyRecords_10]
    exact QT.none
  | succ N ih =>
    intro a x1 w h1 ha hw hE
    rw [f_X5_findEmptyRecords_10]
    refine QT.ile (fun _ => QT.ret ⟨hw, hE.up (by omega)⟩) (fun hlt => ?_)
    have e1 := il_addE (x := x1) (y := 1) (by omega) (by omega)
    exact a_fer18 hpl hrec hfld x1 h1 (by omega) (fun w' hw' hE' => ih (a + 1) (x1 + 1) w' (by omega) (by omega) hw' (hE'.up (by omega))) FU 0 0 w l0 (by omega) hw (hE.up (by omega))
/-- the heights are told, whatever was there -/
theorem a_fer {σ : ST} (hpl : bI (σ.1 4 0) 0 6) (hrec : ∀ i, bI (σ.1 5 i) 0 36) (hfld : ∀ i, bI (σ.1 7 i) 0 8) : QT (f_X5_findEmptyRecords 4 σ) (fun z => E10 σ z ∧ EHX z) := by
  have l0 := li_0
  unfold f_X5_findEmptyRecords f_J7_fill_53178
  have hf : PT (f_J7_fill_53178_5 10 FU (-1) 0 (nI (lnA 10 : Nat)) σ) (fun t => (∀ i, i < 36 → t.1 10 i = -1) ∧ (∀ c, c ≠ 10 → t.1 c = σ.1 c) ∧ t.2 = σ.2) := pt_fill 10 (-1) 36 (by omega) FU 0 0 _ σ l0 (by decide) (fun i hi => by omega)
  refine QT.bnd (fun q e => hf q e) (fun w hw => ?_)
  exact a_fer10 hpl hrec hfld FU 0 0 w l0 (by omega) ⟨hw.2.1, hw.2.2⟩ (fun r hr => .inl (hw.1 r hr))
theorem w_J7_fill_53178_5 {s : ST} {u : Nat}  (h_u : 20 ≤ u) : ∀ (n : Nat) (x1 : Int32) (x2 : Int32) (x3 : Int32) (σ : ST), KTA s σ → PF st0 (KTA s) (f_J7_fill_53178_5 u n x1 x2 x3 σ) := by
  intro n
  induction n with
  | zero => intro x1 x2 x3 σ h; rw [f_J7_fill_53178_5]; exact PF.none
  | succ n ih =>
    intro x1 x2 x3 σ h
    rw [f_J7_fill_53178_5]
    exact (PF.ite (fun _ => (PF.ret0 h)) (fun _ => (PF.ite (fun _ => (ih _ _ _ _ (KTA.i (by omega) h))) (fun _ => PF.none))))
theorem w_J7_fill_53178 {s : ST} {u : Nat} {p1 : Int32} {σ : ST}  (h_u : 20 ≤ u) (h : KTA s σ) : PF st0 (KTA s) (f_J7_fill_53178 u p1 σ) := by
  unfold f_J7_fill_53178
  exact (w_J7_fill_53178_5 (by omega) _ _ _ _ _ h)
theorem w_X1_clear {s : ST}  {σ : ST}   (h : KTA s σ) : PF st0 (KTA s) (f_X1_clear σ) := by
  unfold f_X1_clear
  exact (PF.bnd (w_J7_fill_53178 (by omega) h) (fun q1 hq1 => (PF.ret0 hq1)))
theorem w_X0_clear {s : ST}  {σ : ST}   (h : KTA s σ) : PF st0 (KTA s) (f_X0_clear σ) := by
  unfold f_X0_clear
  exact (PF.bnd (w_J7_fill_53178 (by omega) (KTA.l (by omega) h)) (fun q1 hq1 => (PF.ret0 (KTA.i (by omega) (KTA.i (by omega) hq1)))))
theorem w_X9_clear {s : ST}  {σ : ST}   (h : KTA s σ) : PF st0 (KTA s) (f_X9_clear σ) := by
  unfold f_X9_clear
  exact (PF.ret0 (KTA.i (by omega) (KTA.i (by omega) (KTA.i (by omega) h))))
/-- no plan, or heights that hold -/
def EHY (σ : ST) : Prop := (σ.1 4 0).toInt = 0 ∨ EHX σ
theorem EHY.at {S σ : ST} (h : EHY S) (k : KTA S σ) : EHY σ := by
  unfold EHY
  rw [(k 4 (by omega) (by omega)).1]
  exact h.imp id (fun h => EHB.at h k)
/-- behind plans the heights hold -/
theorem eh_plans (p0 : Int32) (σ : ST) (q : Int32 × ST) (h : f_X10_plans p0 σ = some q) (hE : EHY σ) (hI : IA q.2) : EHY q.2 := by
  unfold f_X10_plans at h
  by_cases h1 : p0 < 0
  · rw [if_pos h1] at h
    cases h
    exact hE
  rw [if_neg h1] at h
  by_cases h2 : p0 ≤ σ.1 0 1
  · rw [if_pos h2] at h
    obtain ⟨s1, e1, h⟩ := bnd_some h
    obtain ⟨⟨r, s2⟩, e2, h⟩ := bnd_some h
    dsimp only at h
    by_cases h3 : r = 0
    · rw [if_pos h3] at h
      obtain ⟨x, ex, h⟩ := bnd_some h
      cases h
      have k1 : KTA σ s1 := w_X6_begin (KTA.i (by omega) KTA.rf) s1 e1
      have k2 : KTA σ s2 := w_X3_parse k1 (r, s2) e2
      exact hE.at (w_X6_faultAnswer k2 x ex)
    · rw [if_neg h3] at h
      obtain ⟨c, ec, h⟩ := bnd_some h
      obtain ⟨d, ed, h⟩ := bnd_some h
      obtain ⟨x1, e3, h⟩ := bnd_some h
      obtain ⟨x2, e4, h⟩ := bnd_some h
      obtain ⟨x3, e5, h⟩ := bnd_some h
      obtain ⟨x4, e6, h⟩ := bnd_some h
      cases h
      have hI : IA x4 := hI
      have k1 : K5A c d := v_X5_findEmptyRecords (by omega) K5A.rf d ed
      have k2 : KTA d x1 := w_X1_clear KTA.rf x1 e3
      have k3 : KTA d x2 := w_X0_clear k2 x2 e4
      have k4 : KTA d x3 := w_X9_clear k3 x3 e5
      have k5 : KTA d x4 := w_X7_clear (by omega) k4 x4 e6
      have c4 : x4.1 4 = c.1 4 := (k5 4 (by omega) (by omega)).1.trans (k1 4 (by omega) (by omega) (by omega)).1
      have c5 : x4.1 5 = c.1 5 := (k5 5 (by omega) (by omega)).1.trans (k1 5 (by omega) (by omega) (by omega)).1
      have c7 : x4.1 7 = c.1 7 := (k5 7 (by omega) (by omega)).1.trans (k1 7 (by omega) (by omega) (by omega)).1
      have b4 := hI.plans
      have b5 := hI.recs
      have b7 := hI.flds
      rw [c4] at b4
      rw [c5] at b5
      rw [c7] at b7
      exact .inr (EHB.at (a_fer b4 b5 b7 d ed).2 k5)
  · rw [if_neg h2] at h
    cases h
    exact hE
/-! records of no bytes: the reference goes through them -/
/-- nothing is read -/
def NRD (τ w : ST) : Prop := (∀ c, c ≠ 0 → c ≠ 36 → w.1 c = τ.1 c) ∧ (∀ i, i ≠ 57 → w.1 0 i = τ.1 0 i) ∧ ∀ c, c ≠ 0 → w.2.1 c = τ.2.1 c
theorem NRD.rf {τ : ST} : NRD τ τ := ⟨fun _ _ _ => rfl, fun _ _ => rfl, fun _ _ => rfl⟩
theorem NRD.trans {τ w z : ST} (h : NRD τ w) (k : NRD w z) : NRD τ z := ⟨fun c a b => (k.1 c a b).trans (h.1 c a b), fun i a => (k.2.1 i a).trans (h.2.1 i a), fun c a => (k.2.2 c a).trans (h.2.2 c a)⟩
theorem STB.nrd {τ w : ST} (h : STB τ w) : NRD τ w := ⟨h.1, h.2.1, fun c _ => by rw [h.2.2]⟩
theorem NRD.krb {τ w : ST} (h : NRD τ w) : KRB τ w := ⟨fun c h0 _ _ h36 _ => h.1 c h0 h36, fun i _ h57 _ _ _ _ _ => h.2.1 i h57, fun c h0 _ _ => h.2.2 c h0⟩
theorem RSK.nrd {b t m L : Nat} {S T : ST} {x : Nat} {σ τ w : ST} (h : RCX b t m S T σ τ x) (hB : NRD τ w) : RSK b t m L S T x σ τ σ w := by
  obtain ⟨⟨h1, h2⟩, hR, h3, h4, h5⟩ := h
  refine ⟨⟨⟨h1, h2.trans hB.krb⟩, ?_, h3, ?_, h5⟩, ⟨fun _ _ _ => rfl, rfl, fun c _ _ => hB.1 c (by omega) (by omega), hB.2.2 21 (by omega), hB.2.2 22 (by omega)⟩, SRK.rf⟩
  · unfold RPS at hR ⊢
    rw [hB.2.1 63 (by omega), hB.2.1 64 (by omega), hB.2.1 65 (by omega), hB.1 34 (by omega) (by omega)]
    exact hR
  · rw [hB.2.1 46 (by omega)]
    exact h4
/-- a value of no bytes: the reference's -/
def cE0 (p : Nat) (S T : ST) (rb : FRD) : Prop := ∀ (x u lev pb pl' : Int32) (h : Int) (L d : Nat) (τ : ST), KRB T τ → lev.toInt = L → TY p (T.1 8 p).toInt S T d x u → EHT S x h → (L : Int) + h < 31 → QT (rb u (-1) lev pb pl' τ) (fun w => w.1 = 1 ∧ NRD τ w.2)
/-- a record of no bytes -/
def cE1 (p : Nat) (S T : ST) (rS : FRI) : Prop := ∀ (u lev xB : Int32) (L w : Nat) (τ : ST), KRB T τ → lev.toInt = L → (0 ≤ u.toInt ∧ u.toInt < 800) → (T.1 3 u.toNatClampNeg).toInt = w → (w : Int) < (T.1 8 p).toInt → 1 ≤ (S.1 10 (6 * p + w)).toInt → (L : Int) + (S.1 10 (6 * p + w)).toInt < 31 → QT (rS u (-1) lev xB τ) (fun z => z.1 = 1 ∧ NRD τ z.2)
theorem e1_top {p q : Nat} {S T : ST} {rb : FRD} {rI rS : FRI} (hS : RST p q S T) (hX : EHX S) (h0 : cE0 p S T rb) : cE1 p S T (f_X11_readsRecord rb rI rS) := by
  intro u lev xB L w τ hB hlev hu hw hw8 hh hL
  have l0 := li_0
  have l1 := li_1
  have l6 := li_6
  have l8 := li_8
  have lm := li_m1
  have hPQ := hS.1
  have hp6 := hPQ.1
  have e53 : (τ.1 0 53).toInt = p := by
    rw [hB.2.1 53 (by omega) (by omega) (by omega) (by omega) (by omega) (by omega) (by omega)]
    exact hPQ.2.1.1
  have e3 : τ.1 3 = T.1 3 := hB.ty.2.1
  have ac := hPQ.2.2.1.1.acc hw8
  have cP := hPQ.2.2.1.1.cnt
  obtain ⟨_, a2, a3, _, a5⟩ := ac
  unfold bI at a3
  have hE := (hX (6 * p + w) (by omega)).resolve_left (fun h => by rw [h] at hh; omega)
  obtain ⟨_, hE⟩ := hE
  unfold f_X11_readsRecord f_X11_readsRecord_38
  refine QT.grd (fun _ => ?_)
  refine QT.ile (fun h => by omega) (fun _ => ?_)
  rw [e3]
  have em := mlE (k := 6) (y := τ.1 0 53) 6 l6 (by omega) (by omega)
  have ea := il_addE (x := 6 * τ.1 0 53) (y := T.1 3 u.toNatClampNeg) (by omega) (by omega)
  generalize hx5 : 6 * τ.1 0 53 + T.1 3 u.toNatClampNeg = x5 at ea
  have n5 : x5.toNatClampNeg = 6 * p + w := nC (by omega)
  have key : ∀ (M i : Nat) (x8 : Int32) (τ1 : ST), NRD τ τ1 → x8.toInt = i → (i : Int) ≤ (T.1 11 (6 * p + w)).toInt → QT (f_X11_readsRecord_43 rb rI rS M u (-1) lev xB x5 0 x8 τ1) (fun z => z.1 = 1 ∧ NRD τ z.2) := by
    intro M
    induction M with
    | zero =>
      intro i x8 τ1 _ _ _
      rw [f_X11_readsRecord_43]
      exact QT.none
    | succ M ih =>
      intro i x8 τ1 h1 h8 hi
      have e11 : τ1.1 11 = T.1 11 := (hB.trans h1.krb).fl.2.1
      have e15 : τ1.1 15 = T.1 15 := (hB.trans h1.krb).fl.2.2.1
      rw [f_X11_readsRecord_43, n5, e11]
      refine QT.grd (fun _ => ?_)
      refine QT.ile (fun hle => ?_) (fun hlt => ?_)
      · show QT (f_X11_readsRecord_217 rb rI rS (99999 + 1) u (-1) xB 0 0 τ1) _
        rw [f_X11_readsRecord_217]
        exact QT.ilt (fun _ => QT.ret ⟨rfl, h1⟩) (fun h => by omega)
      refine QT.bnd (q_enters _ τ1) (fun τ2 hτ2 => ?_)
      show QT (f_X11_readsRecord_83 rb rI rS (f_X11_readsRecord_43 rb rI rS M) (99999 + 1) u (-1) lev xB x5 0 x8 ((8 * x5) + x8) (τ1.1 0 64) 0 0 τ2) _
      rw [f_X11_readsRecord_83]
      refine QT.ilt (fun _ => ?_) (fun h => by omega)
      unfold f_X11_readsRecord_171
      refine QT.ite (fun _ => ?_) (fun h => absurd rfl h)
      have em8 := mlE (k := 8) (y := x5) 8 l8 (by omega) (by omega)
      have ea8 := il_addE (x := 8 * x5) (y := x8) (by omega) (by omega)
      have na : (8 * x5 + x8).toNatClampNeg = 8 * (6 * p + w) + i := nC (by omega)
      have e15' : τ2.1 15 = T.1 15 := (hτ2.1 15 (by omega) (by omega)).trans e15
      rw [na, e15']
      refine QT.grd (fun _ => ?_)
      obtain ⟨⟨_, _⟩, _, h3, _⟩ := a5 i (by omega)
      have hTY : TY p (T.1 8 p).toInt S T 4 (S.1 13 (8 * (6 * p + w) + i)) (T.1 15 (8 * (6 * p + w) + i)) := h3
      have hEf := hE i (by rw [a2]; omega)
      have el := il_addE (x := lev) (y := 1) (by omega) (by omega)
      have h2 : NRD τ τ2 := h1.trans hτ2.nrd
      refine QT.bnd (h0 (S.1 13 (8 * (6 * p + w) + i)) _ (lev + 1) (-1) 0 _ (L + 1) 4 τ2 (hB.trans h2.krb) (by omega) hTY hEf (by omega)) (fun z hz => ?_)
      obtain ⟨z1, z2⟩ := hz
      rw [z1]
      refine QT.ite (fun h => absurd h one_ne) (fun _ => ?_)
      unfold f_X11_readsRecord_198
      have e9 := il_addE (x := x8) (y := 1) (by omega) (by omega)
      have hz3 : NRD z.2 (stI z.2 0 57 (z.2.1 0 57 - 1)) := STB.i.nrd
      exact ih (i + 1) (x8 + 1) _ ((h2.trans z2).trans hz3) (by omega) (by omega)
  exact key FU 0 0 τ NRD.rf l0 (by omega)
theorem e0_top {p q : Nat} {S T : ST} {rb : FRD} {rI rS : FRI} (hS : RST p q S T) (h1 : cE1 p S T rS) : cE0 p S T (f_X11_reads rb rI rS) := by
  intro x u lev pb pl' h L d τ hB hlev hX hE hL
  have l0 := li_0
  have l1 := li_1
  have l2 := li_2
  have l3 := li_3
  have l4 := li_4
  have l5 := li_5
  have l6 := li_6
  have l7 := li_7
  have l8 := li_8
  have lm := li_m1
  have l31 : (31 : Int32).toInt = 31 := by decide
  obtain ⟨d1, hd1⟩ : ∃ d1, d = d1 + 1 := by
    cases d with
    | zero => exact hX.elim
    | succ d1 => exact ⟨d1, rfl⟩
  subst hd1
  have hG := TG.of hX
  have hs := hG.2.1
  have ru := hX.rng
  have e2 : τ.1 2 = T.1 2 := hB.ty.1
  have hh : 0 ≤ h := by
    rcases hE with ⟨_, b⟩ | ⟨_, _, _, _, _, _⟩ <;> omega
  have hsr : (T.1 2 u.toNatClampNeg).toInt = 0 ∨ (T.1 2 u.toNatClampNeg).toInt = 7 := by
    rw [← hs]
    rcases hE with ⟨a, _⟩ | ⟨a, _⟩
    · exact .inl a
    · exact .inr a
  unfold f_X11_reads
  refine QT.ilt (fun _ => ?_) (fun h => by omega)
  refine QT.grd (fun _ => ?_)
  rw [e2]
  refine QT.ieq (fun h => by omega) (fun _ => ?_)
  refine QT.ilt (fun _ => ?_) (fun h => by omega)
  unfold f_X11_reads_157 f_X11_reads_158 f_X11_reads_180
  refine QT.ile (fun h => by omega) (fun _ => ?_)
  refine QT.ilt (fun _ => ?_) (fun h => by omega)
  unfold f_X11_reads_227
  rw [e2]
  refine QT.grd (fun hu => ?_)
  refine QT.ieq (fun h => by omega) (fun _ => ?_)
  refine QT.ieq (fun h7 => ?_) (fun h7 => ?_)
  · obtain ⟨w, w1, w2, w3⟩ := hG.rec7 (by omega)
    have hE' : 1 ≤ (S.1 10 (6 * p + w)).toInt ∧ (S.1 10 (6 * p + w)).toInt ≤ h := by
      rcases hE with ⟨a, _⟩ | ⟨_, r, _, b, c, d⟩
      · rw [hs] at a
        omega
      · have er : r = 6 * p + w := by omega
        rw [er] at c d
        exact ⟨c, d⟩
    refine QT.bnd (h1 u lev (-1) L w τ hB hlev hu w1 w2 hE'.1 (by omega)) (fun z hz => QT.grd (fun _ => QT.ret hz))
  · have hs0 : (T.1 2 u.toNatClampNeg).toInt = 0 := by omega
    have hl : QT (f_X11_readsLeaf u (-1) (-1) τ) (fun w => w.1 = 1 ∧ NRD τ w.2) := by
      unfold f_X11_readsLeaf f_X11_readsLeaf_108
      rw [e2]
      refine QT.grd (fun _ => ?_)
      refine QT.ieq (fun h => by omega) (fun _ => ?_)
      refine QT.ieq (fun h => by omega) (fun _ => ?_)
      refine QT.ieq (fun h => by omega) (fun _ => ?_)
      refine QT.ieq (fun h => by omega) (fun _ => ?_)
      refine QT.ieq (fun h => by omega) (fun _ => ?_)
      refine QT.ite (fun h => absurd h one_ne) (fun _ => ?_)
      refine QT.ilt (fun _ => ?_) (fun h => by omega)
      refine QT.grd (fun _ => QT.ret ⟨rfl, fun _ _ _ => rfl, fun _ _ => rfl, fun c hc => ?_⟩)
      exact stL_ne hc
    exact QT.bnd hl (fun z hz => QT.grd (fun _ => QT.ret hz))
theorem e_all {p q : Nat} {S T : ST} (hS : RST p q S T) (hX : EHX S) : ∀ M, cE0 p S T (R_X11_reads M).1 ∧ cE1 p S T (R_X11_reads M).2.2 := by
  intro M
  induction M with
  | zero =>
    refine ⟨?_, ?_⟩
    · intro x u lev pb pl' h L d τ _ _ _ _ _
      exact QT.none
    · intro u lev xB L w τ _ _ _ _ _ _ _
      exact QT.none
  | succ M ih => exact ⟨e0_top hS ih.2, e1_top hS hX ih.1⟩
theorem c_emp {b t m p q : Nat} {S T : ST} (hS : RST p q S T) (hSS : RSS b t S) (hX : EHX S) (M : Nat) : cEMP b t m p q S T (R_X11_reads M).1 := by
  intro x u lev L d xr σ τ hL hlev hY hd hC
  have lm := li_m1
  have l31 : (31 : Int32).toInt = 31 := by decide
  unfold f_X4_isEmptyThere
  have k := hC.1.1.kta
  refine QT.bnd (a_eh x σ (EHB.at hX k)) (fun q hq => ?_)
  obtain ⟨v, s⟩ := q
  obtain ⟨e, hv⟩ := hq
  have e : s = σ := e
  have hv : v = -1 ∨ (EHT σ x v.toInt ∧ 0 ≤ v.toInt ∧ (v.toInt ≤ 1296 ∨ v.toInt = 0)) := hv
  rw [e]
  dsimp only
  refine QT.ite (fun _ => QT.ret ⟨rfl, fun h => absurd rfl h⟩) (fun hne => ?_)
  obtain ⟨h1, h2, h3⟩ := hv.resolve_left hne
  have ea := il_addE (x := lev) (y := v) (by omega) (by omega)
  refine QT.ile (fun _ => QT.ret ⟨rfl, fun h => absurd rfl h⟩) (fun hlt => QT.ret ⟨rfl, fun _ pb pl' => ?_⟩)
  exact ((e_all hS hX M).1 x u lev pb pl' v.toInt L d τ hC.1.2 hlev hY (h1.ba k) (by omega)).mono (fun w hw => ⟨hw.1, RSK.nrd hC hw.2⟩)
/-- reading at every level, both sides -/
theorem ck {b t m p q : Nat} {S T : ST} (hb : BT b t) (hS : RST p q S T) (hSS : RSS b t S) (hX : EHX S) : ∀ N, CKN b t m p q S T N := ck_all hb hS hSS (fun M => c_emp hS hSS hX M)
/-! a whole message read: its root, both sides -/
theorem r_rootT {b t : Nat} {S T : ST} {rT rF rL rO rR : FTK} {rb : FRD} {x y : Int32} {J : ST → Int32 × ST → Prop} {s0 : Int32} (hs : f_X5_sortOf 4 x S = some (s0, S)) (h8 : ¬ s0.toInt = 8) (hy : ¬ y = -1) (hO : QT (rO b t x y (-1) 0 0 S) (fun s => QT (rb 799 799 0 (-1) 0 T) (J s))) : QT (f_X4_take rT rF rL rO rR b t x y (-1) 0 0 S) (fun s => QT (rb 799 799 0 (-1) 0 T) (J s)) := by
  have l0 := li_0
  have l8 := li_8
  have l31 : (31 : Int32).toInt = 31 := by decide
  unfold f_X4_take
  refine QT.ilt (fun _ => ?_) (fun h31 => by omega)
  refine QT.ite (fun h => absurd h hy) (fun _ => ?_)
  unfold f_X4_take_34
  rw [hs, sbnd]
  dsimp only
  refine QT.ieq (fun h => by omega) (fun _ => ?_)
  exact QT.bnd hO (fun s hs => QT.ret hs)
theorem r_rootO {b t m p q : Nat} {S T : ST} {rT rF rL rO rR : FTK} {rb : FRD} {rI rS : FRI} (hS : RST p q S T) (hSS : RSS b t S) (hLN : cLSN b t m p q S T rL rI) (hRN : cRCN b t m p q S T rR rS) (hfL : cFUL b t rL) (hfR : cFUL b t rR) {x y : Int32} (hG : TG p (T.1 8 p).toInt S T 0 x 799) (hH : TG q (T.1 8 q).toInt S T 0 y 799) (h7 : (T.1 2 799).toInt = 7) (hM : MS T 799 799) (hC : RCX b t m S T S T 0) : QT (f_X4_takeOwn rT rF rL rO rR b t x y (-1) 0 0 S) (fun s => QT (f_X11_reads rb rI rS 799 799 0 (-1) 0 T) (ROUT b (RVP b t m q 0 S T y 799 0 (-1) 0 [] [] S T) s)) := by
  have l8 := li_8
  have l0 := li_0
  have lm := li_m1
  have l31 : (31 : Int32).toInt = 31 := by decide
  have l799 : (799 : Int32).toInt = 799 := by decide
  have n799 : (799 : Int32).toNatClampNeg = 799 := by decide
  have hn := hSS.2.2
  have hb := hC.1.1.1
  obtain ⟨hsY, _⟩ := hH.rA hn (KRA.rf hb).kta
  unfold f_X4_takeOwn f_X11_reads
  rw [hsY, sbnd]
  dsimp only
  refine QT.sw ?_
  refine QT.ilt (fun _ => ?_) (fun h => by omega)
  refine QT.grd (fun _ => ?_)
  rw [n799]
  refine QT.ieq (fun h => by omega) (fun _ => ?_)
  refine QT.ilt (fun h => by omega) (fun _ => ?_)
  refine QT.grd (fun _ => ?_)
  refine QT.ieq (fun hv8 => by omega) (fun hv8 => ?_)
  have hv8' : ¬ (T.1 2 (799 : Int32).toNatClampNeg).toInt = 8 := by rw [n799]; omega
  unfold f_X11_reads_157 f_X11_reads_158
  refine QT.ile (fun h => by omega) (fun _ => ?_)
  refine QT.sw ?_
  refine QT.ite (fun h => absurd (by rw [h]) hv8) (fun _ => ?_)
  exact r_own_n hS hSS hLN hRN hfL hfR (L := 0) (by omega) x 799 0 (-1) 0 y 799 y 799 (-1) l0 hG (by omega) hv8' hH (by omega) hv8' hM (.inl ⟨lm, rfl, rfl, hv8'⟩) S T hC (.inl ⟨⟨lm, lm⟩, rfl, rfl, l0⟩)
theorem r_root {b t m p q : Nat} {S T : ST} (hb : BT b t) (hS : RST p q S T) (hSS : RSS b t S) (hX : EHX S) (h7 : (T.1 2 799).toInt = 7) (h3 : (T.1 3 799).toInt = 0) (hpair : ¬ T.1 35 0 = 0) (hC : RCX b t m S T S T 0) (N M : Nat) : QT ((R_X4_take (N + 2)).1 b t (S.1 6 p) (S.1 6 q) (-1) 0 0 S) (fun s => QT ((R_X11_reads (M + 1)).1 799 799 0 (-1) 0 T) (ROUT b (RVP b t m q 0 S T (S.1 6 q) 799 0 (-1) 0 [] [] S T) s)) := by
  have l0 := li_0
  have l8 := li_8
  have lm := li_m1
  have n799 : (799 : Int32).toNatClampNeg = 799 := by decide
  have hG := hS.1.2.2.1.1.tg hS.1.1.1 h7 h3
  have hH := hS.1.2.2.1.2.tg hS.1.1.2 h7 h3
  obtain ⟨hsX, _⟩ := hG.rA hSS.2.2 (KRA.rf hb).kta
  have hy : ¬ S.1 6 q = -1 := fun h => by
    have := hH.1.1.1
    rw [h] at this
    omega
  have hM : MS T 799 799 := by
    refine MT.iff.mpr (.inr (.inr ⟨?_, ?_, .inr (.inl ⟨?_, ?_, ?_⟩)⟩))
    · rw [n799]; omega
    · rw [n799]; omega
    · rw [n799]; exact h7
    · rw [n799]; exact h7
    · rw [n799]
      have e0 : (T.1 3 799).toNatClampNeg = 0 := nC h3
      rw [e0]
      exact hpair
  have k := ck (m := m) hb hS hSS hX N
  rw [n799] at hsX
  exact r_rootT hsX (by omega) hy (r_rootO hS hSS (k.2.2.1 M).2 (k.2.2.2.2.1 M).2 k.2.2.2.2.2.1 k.2.2.2.2.2.2 hG hH h7 hM hC)
/-! a message read as another plan's, both sides -/
/-- the order of a tree: nothing but it is told -/
def KPO (t : Nat) (s σ : ST) : Prop := (∀ c, c ≠ t + 10 → c ≠ t + 11 → σ.1 c = s.1 c) ∧ σ.2 = s.2
theorem KPO.rf {t : Nat} {s : ST} : KPO t s s := ⟨fun _ _ _ => rfl, rfl⟩
theorem KPO.i {t : Nat} {s σ : ST} {c i : Nat} {v : Int32} (hc : c = t + 10 ∨ c = t + 11) (h : KPO t s σ) : KPO t s (stI σ c i v) := ⟨fun d a b => (stI_ne (by omega)).trans (h.1 d a b), h.2⟩
theorem wo_X7_isRow {T0 : Nat} {s : ST} {b : Nat} {p0 : Int32} {σ : ST}   (h : KPO T0 s σ) : PF st1 (KPO T0 s) (f_X7_isRow b p0 σ) := by
  unfold f_X7_isRow
  exact (PF.ite (fun _ => (PF.ret1 h)) (fun _ => (PF.ite (fun _ => (PF.ret1 h)) (fun _ => (PF.ite (fun _ => (PF.ret1 h)) (fun _ => (PF.ret1 h)))))))
theorem wo_X7_firstOf {T0 : Nat} {s : ST} {b : Nat} {p0 : Int32} {σ : ST}   (h : KPO T0 s σ) : PF st1 (KPO T0 s) (f_X7_firstOf b p0 σ) := by
  unfold f_X7_firstOf
  exact (PF.bnd (wo_X7_isRow  h) (fun q1 hq1 => (PF.ite (fun _ => (PF.ret1 hq1)) (fun _ => (PF.ite (fun _ => (PF.ret1 hq1)) (fun _ => PF.none))))))
theorem wo_X7_nextOf {T0 : Nat} {s : ST} {b : Nat} {p0 : Int32} {σ : ST}   (h : KPO T0 s σ) : PF st1 (KPO T0 s) (f_X7_nextOf b p0 σ) := by
  unfold f_X7_nextOf
  exact (PF.bnd (wo_X7_isRow  h) (fun q1 hq1 => (PF.ite (fun _ => (PF.ret1 hq1)) (fun _ => (PF.ite (fun _ => (PF.ret1 hq1)) (fun _ => PF.none))))))
theorem wo_X7_rowBehind_51 {T0 : Nat} {s : ST} {b : Nat} {x2 : Int32} {σ : ST}   (h : KPO T0 s σ) : PF st1 (KPO T0 s) (f_X7_rowBehind_51 b x2 σ) := by
  unfold f_X7_rowBehind_51
  exact (PF.bnd (wo_X7_nextOf  h) (fun q1 hq1 => (PF.ret1 hq1)))
theorem wo_X7_parentOf {T0 : Nat} {s : ST} {b : Nat} {p0 : Int32} {σ : ST}   (h : KPO T0 s σ) : PF st1 (KPO T0 s) (f_X7_parentOf b p0 σ) := by
  unfold f_X7_parentOf
  exact (PF.bnd (wo_X7_isRow  h) (fun q1 hq1 => (PF.ite (fun _ => (PF.ret1 hq1)) (fun _ => (PF.ite (fun _ => (PF.ret1 hq1)) (fun _ => PF.none))))))
theorem wo_X7_rowBehind_19 {T0 : Nat} {s : ST} {b : Nat}   : ∀ (n : Nat) (x1 : Int32) (x2 : Int32) (σ : ST), KPO T0 s σ → PF st1 (KPO T0 s) (f_X7_rowBehind_19 b n x1 x2 σ) := by
  intro n
  induction n with
  | zero => intro x1 x2 σ h; rw [f_X7_rowBehind_19]; exact PF.none
  | succ n ih =>
    intro x1 x2 σ h
    rw [f_X7_rowBehind_19]
    exact (PF.ite (fun _ => (wo_X7_rowBehind_51  h)) (fun _ => (PF.ite (fun _ => (wo_X7_rowBehind_51  h)) (fun _ => (PF.bnd (wo_X7_nextOf  h) (fun q1 hq1 => (PF.ite (fun _ => (PF.bnd (wo_X7_parentOf  hq1) (fun q3 hq3 => (ih _ _ _ hq3)))) (fun _ => (wo_X7_rowBehind_51  hq1)))))))))
theorem wo_X7_rowBehind {T0 : Nat} {s : ST} {b : Nat} {p0 : Int32} {σ : ST}   (h : KPO T0 s σ) : PF st1 (KPO T0 s) (f_X7_rowBehind b p0 σ) := by
  unfold f_X7_rowBehind
  exact (PF.bnd (wo_X7_firstOf  h) (fun q1 hq1 => (PF.ite (fun _ => (wo_X7_rowBehind_19  _ _ _ _ hq1)) (fun _ => (PF.bnd (wo_X7_firstOf  hq1) (fun q3 hq3 => (PF.ret1 hq3)))))))
theorem wo_X7_putInOrder_4 {T0 : Nat} {s : ST} {b : Nat}  (h_b : T0 = b) : ∀ (n : Nat) (x1 : Int32) (x2 : Int32) (σ : ST), KPO T0 s σ → PF st0 (KPO T0 s) (f_X7_putInOrder_4 b n x1 x2 σ) := by
  intro n
  induction n with
  | zero => intro x1 x2 σ h; rw [f_X7_putInOrder_4]; exact PF.none
  | succ n ih =>
    intro x1 x2 σ h
    rw [f_X7_putInOrder_4]
    exact (PF.ite (fun _ => (PF.ret0 h)) (fun _ => (PF.bnd (wo_X7_isRow  h) (fun q1 hq1 => (PF.ite (fun _ => (PF.ret0 hq1)) (fun _ => (PF.ite (fun _ => (PF.ite (fun _ => (PF.bnd (wo_X7_rowBehind  (KPO.i (by omega) (KPO.i (by omega) hq1))) (fun q5 hq5 => (ih _ _ _ hq5)))) (fun _ => PF.none))) (fun _ => PF.none))))))))
theorem wo_X7_putInOrder {T0 : Nat} {s : ST} {b : Nat} {σ : ST}  (h_b : T0 = b) (h : KPO T0 s σ) : PF st0 (KPO T0 s) (f_X7_putInOrder b σ) := by
  unfold f_X7_putInOrder
  exact (wo_X7_putInOrder_4 (by omega) _ _ _ _ h)
/-- the root's type is laid: nothing else is another one -/
theorem PSX.put {σ : ST} {PR : Nat → Int32} (hM : ME σ) (hP : PSX σ PR) (x y : Int32) : PSX (stI (stI σ 2 799 x) 3 799 y) PR := by
  intro w r a1 a2 a3 a4 a5
  obtain ⟨x1, x2, x3⟩ := hP w r a1 a2 a3 a4 a5
  refine ⟨x1, x2, fun k f v k1 k2 k3 => ?_⟩
  have k3' := ff_tr (σ := stI (stI σ 2 799 x) 3 799 y) (τ := σ) rfl rfl rfl rfl w f v k3
  have k1' : (k : Int) < (σ.1 11 (6 * (σ.1 0 54).toNatClampNeg + r.toNatClampNeg)).toInt := k1
  have k2' : f.toInt = 8 * (6 * (σ.1 0 54).toInt + r.toInt) + k := k2
  obtain ⟨c1, c2⟩ := x3 k f v k1' k2' k3'
  refine ⟨fun h0 => ?_, c2⟩
  have m := c1 h0
  have n1 := nN_ a1
  have n2 := nN_ a3
  have hw : wrec σ w := wrec_i a1 (by omega)
  have hr : rrec σ r := rrec_i a3 (by omega)
  obtain ⟨b1, b2, b3, b4⟩ := hM.w
  have r2 : r.toInt < rmR σ := hr.2
  have b21 := b2.1
  have b22 := b2.2
  obtain ⟨f1, f2⟩ := hM.rf4 hr
  have f12 := f1.2
  have n3 := nN_ b21
  have ef : f.toNatClampNeg = 8 * (6 * (σ.1 0 54).toNatClampNeg + r.toNatClampNeg) + k := nC (by omega)
  have hf := f2 k k1'
  rw [← ef] at hf
  obtain ⟨⟨v', s⟩, e1, e2, e3⟩ := hM.ff4 hw (f := f) (by omega)
  rw [k3'] at e1
  have ev : v = v' := (Prod.mk.inj (Option.some.inj e1)).1
  rw [← ev] at e3
  have e3 : v.toInt = -1 ∨ (0 ≤ v.toInt ∧ v.toInt < 576) ∧ VC σ (rmW σ) 4 (σ.1 15 v.toNatClampNeg) := e3
  rcases e3 with e3 | e3
  · omega
  · obtain ⟨n, hn⟩ := m
    exact ⟨n, MT.put (i := 799) (by decide) e3.2 hf hn⟩
theorem put_back (σ : ST) (x y : Int32) : stI (stI (stI (stI σ 2 799 x) 3 799 y) 2 799 (σ.1 2 799)) 3 799 (σ.1 3 799) = σ := by
  have e : ∀ c i, (stI (stI (stI (stI σ 2 799 x) 3 799 y) 2 799 (σ.1 2 799)) 3 799 (σ.1 3 799)).1 c i = σ.1 c i := fun c i => by
    by_cases h3 : c = 3
    · subst h3
      rw [stI_at]
      by_cases hi : i = 799
      · rw [upA hi, hi]
      · rw [upN hi, stI_ne (by omega), stI_at, upN hi, stI_ne (by omega)]
    · rw [stI_ne h3]
      by_cases h2 : c = 2
      · subst h2
        rw [stI_at]
        by_cases hi : i = 799
        · rw [upA hi, hi]
        · rw [upN hi, stI_ne (by omega), stI_at, upN hi]
      · rw [stI_ne h2, stI_ne h3, stI_ne h2]
  exact Prod.ext (funext fun c => funext fun i => e c i) rfl
theorem PPX.root {σ : ST} (h : PPX σ) : PPX (stI (stI σ 2 799 7) 3 799 0) := by
  have hM : ME (stI (stI σ 2 799 7) 3 799 0) := ⟨h.1.1.root, h.1.2.1, h.1.2.2⟩
  refine ⟨hM, h.2.1, PSX.put h.1 h.2.2.1 7 0, fun PR' hQ k hk hne => ?_⟩
  have := PSX.put hM hQ (σ.1 2 799) (σ.1 3 799)
  rw [put_back σ 7 0] at this
  exact h.2.2.2 PR' this k hk hne
theorem PPX.ch {I : List Nat} {σ t : ST} (h : PPX σ) (c : CH [] I σ t) (hI : ∀ i, i ∈ [32, 53, 54] → i ∉ I) : PPX t := by
  obtain ⟨h1, h2, h3⟩ := h
  obtain ⟨e1, e2⟩ := rm_ch c (by decide) (hI 53 (by decide)) (hI 54 (by decide))
  have e35 : t.1 35 = σ.1 35 := c.1 35 (by decide) (by decide)
  refine ⟨h1.ch c (fun _ _ h => by cases h) hI, ?_, ?_⟩
  · unfold PC
    rw [e1, e2, e35]
    exact h2
  · rw [e35]
    exact h3.tr c (fun _ _ h => by cases h) (hI 53 (by decide)) (hI 54 (by decide))
/-- what a run of the class leaves as it was -/
def KRN (b t : Nat) (σ s : ST) : Prop := (∀ c, (c < b ∨ b + 2 < c) → (c < t ∨ t + 11 < c) → s.1 c = σ.1 c) ∧ (∀ i, i ≠ 1 → s.1 t i = σ.1 t i) ∧ (∀ c, c ≠ 41 → c ≠ 42 → c ≠ t + 6 → s.2.1 c = σ.2.1 c) ∧ s.2.2.1 = σ.2.2.1 ∧ ∀ c, c ≠ b → s.2.2.2 c = σ.2.2.2 c
theorem KRN.kra {b t : Nat} {σ s u : ST} (h : KRN b t σ s) (k : KRA b t s u) : KRN b t σ u := by
  obtain ⟨_, k1, ⟨_, k2⟩, k3, k4, _⟩ := k
  refine ⟨fun c a d => (k1 c a d).trans (h.1 c a d), fun i hi => (k2 i hi).trans (h.2.1 i hi), fun c a d e => (k3 c e).trans (h.2.2.1 c a d e), by rw [k4]; exact h.2.2.2.1, fun c hc => by rw [k4]; exact h.2.2.2.2 c hc⟩
theorem KRN.clr {b t : Nat} {σ s : ST} (h : KRN b t σ s) (v : Int32) : KRN b t σ (stI s t 1 v) := by
  refine ⟨fun c a d => (stI_ne (by omega)).trans (h.1 c a d), fun i hi => ?_, h.2.2⟩
  rw [stI_at, upN hi]
  exact h.2.1 i hi
/-- and one of the reference -/
def KRM (τ w : ST) : Prop := (∀ c, c ≠ 0 → c ≠ 2 → c ≠ 3 → c ≠ 20 → (c < 23 ∨ 30 < c) → c ≠ 35 → c ≠ 36 → c ≠ 41 → w.1 c = τ.1 c) ∧ ∀ i, i ∉ [46, 53, 54, 57, 63, 64, 65, 66, 67, 68, 72] → w.1 0 i = τ.1 0 i
theorem KRM.krb {τ w z : ST} (h : KRM τ w) (k : KRB w z) : KRM τ z := by
  refine ⟨fun c h0 h2 h3 h20 h23 h35 h36 h41 => (k.1 c h0 h20 h23 h36 h41).trans (h.1 c h0 h2 h3 h20 h23 h35 h36 h41), fun i hi => ?_⟩
  simp only [List.mem_cons, List.not_mem_nil, or_false, not_or] at hi
  exact (k.2.1 i (by omega) (by omega) (by omega) (by omega) (by omega) (by omega) (by omega)).trans (h.2 i (by simp only [List.mem_cons, List.not_mem_nil, or_false, not_or]; omega))
/-- what both answer of a message read: refused alike, or one tree -/
def RDT (b t q : Nat) (qa qb : Int32 × ST) : Prop := qb.1 = 0 ∧ ∃ (S T s : ST) (e : Nat), (PHB 4 q S T ∧ q < 6 ∧ TG q (T.1 8 q).toInt S T 0 (S.1 6 q) 799) ∧ (KTA S s ∧ KRA b t S s ∧ KRB T qb.2) ∧ (f_X7_putInOrder t s = some qa.2 ∧ KPO t s qa.2) ∧ VAL True t q S T s qb.2 32 (S.1 6 q) 799 (0, e) (0, e) ∧ ((0 < e ∧ e ≤ 400) ∧ (s.1 t 1).toInt = e ∧ (qb.2.1 0 46).toInt = e ∧ qa.1.toInt = e) ∧ (s.1 (t + 2) 0).toInt = -1 ∧ (s.1 (t + 3) 0).toInt = 0 ∧ (qb.2.1 24 0).toInt = -1 ∧ (qb.2.1 25 0).toInt = 0 ∧ s.1 (t + 5) 0 = qb.2.1 27 0
def RDN (b t q : Nat) (σ τ : ST) (qa qb : Int32 × ST) : Prop := (KRN b t σ qa.2 ∧ KRM τ qb.2) ∧ ((qa.1 = qb.1 ∧ (qa.1.toInt = -2 ∨ qa.1.toInt = -3) ∧ (qa.2.1 t 1).toInt = 0) ∨ RDT b t q qa qb)
theorem q_sizeOfM (p0 : Int32) (σ : ST) (h : 0 ≤ p0.toInt ∧ p0.toInt < 4) : QT (f_X1_sizeOf p0 σ) (fun q => q = (σ.1 39 p0.toNatClampNeg, σ)) := by
  unfold f_X1_sizeOf f_X1_isNumber
  have l0 := li_0
  have l4 := li_4
  rw [if_neg (by rw [Int32.lt_iff_toInt_lt]; omega), if_neg (by rw [Int32.le_iff_toInt_le]; omega), sbnd]
  dsimp only
  rw [if_neg n1_0]
  exact QT.grd (fun _ => QT.ret rfl)
/-- behind the end of a run -/
theorem a_run129F {b t : Nat} {s : ST} (h : ¬ s.1 b 7 = 0) : QT (f_X4_run_129 b t s) (fun qa => qa.1.toInt = -3 ∧ qa.2 = stI s t 1 0) := by
  unfold f_X4_run_129 f_X7_clear
  refine QT.ite (fun h0 => absurd h0 h) (fun _ => QT.grd (fun _ => ?_))
  rw [sbnd]
  exact QT.ret ⟨show (-3 : Int32).toInt = -3 by decide, rfl⟩
theorem a_run129S {b t : Nat} {s : ST} (h : s.1 b 7 = 0) : QT (f_X4_run_129 b t s) (fun qa => f_X7_putInOrder t s = some qa.2 ∧ KPO t s qa.2 ∧ qa.1 = s.1 t 1) := by
  unfold f_X4_run_129
  refine QT.ite (fun _ => QT.grd (fun _ => ?_)) (fun h0 => absurd h h0)
  refine QT.bnd (Q := fun z => f_X7_putInOrder t s = some z ∧ KPO t s z) (fun z e => ⟨e, wo_X7_putInOrder rfl KPO.rf z e⟩) (fun z hz => QT.grd (fun _ => QT.ret ⟨hz.1, hz.2, ?_⟩))
  show z.1 t 1 = s.1 t 1
  rw [hz.2.1 t (by omega) (by omega)]
/-! a run, both sides -/
theorem ab_run {b t : Nat} {σ τ : ST} (hb : BT b t) (hZ : MZ τ σ) (hX : EHX σ) (hM : MSG σ τ) (hcap : 400 ≤ (σ.1 t 0).toInt) (p0 p1 : Int32) {m q : Nat} (h0 : p0.toInt = m) (hm : m < 4) (hw : ¬ (σ.1 40 m).toInt = -1) (h1 : p1.toInt = q) (hq : (q : Int) < (τ.1 0 32).toInt) : QT (f_X4_run b t p0 p1 σ) (fun qa => QT (f_X11_readsAll p0 p1 τ) (fun qb => RDN b t q σ τ qa qb)) := by
  have l0 := li_0
  have lm := li_m1
  have l6 := li_6
  have l400 := li_400
  have hb' := hb
  unfold BT at hb'
  obtain ⟨hm1, hm2⟩ := hM m hm
  have hMP := hZ.2.2 m hm
  obtain ⟨p, ep⟩ : ∃ p : Nat, (σ.1 40 m).toInt = p := ⟨_, (Int.toNat_of_nonneg (by omega)).symm⟩
  have nm : p0.toNatClampNeg = m := nC h0
  have hIB := hZ.2.1.2.2
  have hT5 := hZ.2.1.1
  have b32 := hIB.1.1
  unfold bI at b32
  have hp : (p : Int) < (τ.1 0 32).toInt := by omega
  obtain ⟨s39, ⟨z0, z4⟩, sby⟩ := hm2 (by rw [← hm1]; exact hw)
  unfold f_X4_run
  refine QT.bnd (fun q e => pt_planOf p0 σ (by omega) q e) (fun q1 hq1 => ?_)
  rw [nm] at hq1
  rw [hq1]
  dsimp only
  refine QT.grd (fun _ => ?_)
  unfold f_X7_clear
  rw [sbnd]
  refine QT.bnd (q_sizeOfM p0 _ (by omega)) (fun q6 hq6 => ?_)
  rw [nm] at hq6
  rw [hq6]
  dsimp only
  have rR : (stR σ b t).2.2.2 b = t := by
    show (bif Nat.beq b b then t else σ.2.2.2 b) = t
    rw [Nat.beq_refl]
    rfl
  have rR2 : ∀ c, c ≠ b → (stR σ b t).2.2.2 c = σ.2.2.2 c := fun c hc => by
    show (bif Nat.beq c b then t else σ.2.2.2 c) = _
    have e : Nat.beq c b = false := by
      cases h : Nat.beq c b with
      | false => rfl
      | true => exact absurd (Nat.eq_of_beq_eq_true h) hc
    rw [e]
    rfl
  have e39 : (stI (stI (stI (stR σ b t) t 1 0) b 4 p0) b 5 0).1 39 m = σ.1 39 m := by
    rw [stI_ne (by omega), stI_ne (by omega), stI_ne (by omega)]
    rfl
  rw [e39]
  have y0 : ∀ c, c ≠ b → c ≠ t → (stI (stI (stI (stI (stI (stI (stR σ b t) t 1 0) b 4 p0) b 5 0) b 6 (σ.1 39 m)) b 7 0) b 10 0).1 c = σ.1 c := fun c h1 h2 => by
    rw [stI_ne h1, stI_ne h1, stI_ne h1, stI_ne h1, stI_ne h1, stI_ne h2]
    rfl
  have yb : (stI (stI (stI (stI (stI (stI (stR σ b t) t 1 0) b 4 p0) b 5 0) b 6 (σ.1 39 m)) b 7 0) b 10 0).1 b = upd (upd (upd (upd (upd (σ.1 b) 4 p0) 5 0) 6 (σ.1 39 m)) 7 0) 10 0 := by
    rw [stI_at, stI_at, stI_at, stI_at, stI_at, stI_ne (by omega)]
    rfl
  have yt : (stI (stI (stI (stI (stI (stI (stR σ b t) t 1 0) b 4 p0) b 5 0) b 6 (σ.1 39 m)) b 7 0) b 10 0).1 t = upd (σ.1 t) 1 0 := by
    rw [stI_ne (by omega), stI_ne (by omega), stI_ne (by omega), stI_ne (by omega), stI_ne (by omega), stI_at]
    rfl
  have yL : (stI (stI (stI (stI (stI (stI (stR σ b t) t 1 0) b 4 p0) b 5 0) b 6 (σ.1 39 m)) b 7 0) b 10 0).2.1 = σ.2.1 := rfl
  have yD : (stI (stI (stI (stI (stI (stI (stR σ b t) t 1 0) b 4 p0) b 5 0) b 6 (σ.1 39 m)) b 7 0) b 10 0).2.2.1 = σ.2.2.1 := rfl
  have yR : (stI (stI (stI (stI (stI (stI (stR σ b t) t 1 0) b 4 p0) b 5 0) b 6 (σ.1 39 m)) b 7 0) b 10 0).2.2.2 = (stR σ b t).2.2.2 := rfl
  generalize stI (stI (stI (stI (stI (stI (stR σ b t) t 1 0) b 4 p0) b 5 0) b 6 (σ.1 39 m)) b 7 0) b 10 0 = y at y0 yb yt yL yD yR ⊢
  have kN0 : KRN b t σ y := ⟨fun c a d => y0 c (by omega) (by omega), fun i hi => by rw [yt, upN hi], fun c _ _ _ => by rw [yL], yD, fun c hc => by rw [yR]; exact rR2 c hc⟩
  have kTA : KTA σ y := fun c c1 c2 => ⟨y0 c (by omega) (by omega), by rw [yL]⟩
  have hZy : MZ τ y := hZ.to kTA (fun c hc => y0 c (by
    simp only [List.mem_cons, List.not_mem_nil, or_false] at hc
    omega) (by
    simp only [List.mem_cons, List.not_mem_nil, or_false] at hc
    omega)) ⟨by rw [yL], by rw [yL]⟩
  refine QT.bnd (fun s e => at_turnTo hZy ep h1 hp hq s e) (fun S hs => ?_)
  obtain ⟨kn, hZs, hG⟩ := hs
  have kNS : KRN b t σ S := by
    obtain ⟨k1, k2, k3⟩ := kn
    refine ⟨fun c a d => by rw [k1]; exact kN0.1 c a d, fun i hi => by rw [k1]; exact kN0.2.1 i hi, fun c a d e => (k3 c a d).trans (kN0.2.2.1 c a d e), by rw [k2]; exact kN0.2.2.2.1, fun c hc => by rw [k2]; exact kN0.2.2.2.2 c hc⟩
  have S1 : S.1 = y.1 := kn.1
  have SR : S.2.2.2 b = t := by rw [kn.2.1, yR]; exact rR
  have kTS : KTA σ S := kTA.trans kn.kta
  unfold f_X11_readsAll
  refine QT.sw ?_
  refine QT.grd (fun _ => ?_)
  rw [nm, ← hm1]
  refine QT.bnd (QT.ok (bx_laysPairs _ p1 τ hIB.1 hIB.2.1 ⟨by omega, by omega⟩ ⟨by omega, by omega⟩)) (fun u hu => ?_)
  obtain ⟨uc, uPP, u53, u54⟩ := hu
  have hG2 : GFX u (RBX (S.2.1 41 4)) := (hG τ hZ.y0).tr (stt_ch uc u53 u54) (by decide) (by decide) (by decide)
  have hRE : ∀ k, k < 36 → (u.1 35 k = 0 ↔ lbt (S.2.1 41 4) k = false) := fun k hk => (uPP.2.2.uniq hG2 k hk).trans RBX_iff
  have kM0 : KRM τ u := ⟨fun c c0 _ _ _ _ c35 _ _ => uc.1 c c0 (by simp only [List.mem_cons, List.not_mem_nil, or_false]; exact c35), fun i hi => uc.2.1 i (fun h => hi (by
    simp only [List.mem_cons, List.not_mem_nil, or_false] at h ⊢
    omega))⟩
  have e35 : (stI u 0 66 0).1 35 (0 : Int32).toNatClampNeg = u.1 35 0 := rfl
  rw [e35]
  unfold f_X0_rootsFit
  rw [a_bitOf 0 0 S (a := 0) (b := 0) l0 l0 (by omega) (by omega)]
  have e00 : 6 * (0 % 6) + 0 % 6 = 0 := rfl
  rw [e00]
  by_cases hb0 : lbt (S.2.1 41 4) 0 = false
  · -- the roots do not match
    refine QT.ite (fun _ => QT.ret ?_) (fun h => absurd ((hRE 0 (by omega)).mpr hb0) h)
    rw [sbnd]
    dsimp only
    rw [if_pos ((a_has (by omega)).mpr hb0), sbnd]
    dsimp only
    refine QT.ite (fun _ => QT.ret ?_) (fun h => absurd rfl h)
    refine ⟨⟨kNS, ⟨fun c c0 c2 c3 c20 c23 c35 c36 c41 => (stI_ne c0).trans (kM0.1 c c0 c2 c3 c20 c23 c35 c36 c41), fun i hi => ?_⟩⟩, .inl ⟨rfl, .inl (show (-2 : Int32).toInt = -2 by decide), by rw [S1, yt, upA rfl]; exact l0⟩⟩
    have i66 : i ≠ 66 := fun h => hi (by rw [h]; decide)
    show (stI u 0 66 0).1 0 i = τ.1 0 i
    rw [stI_at, upN i66]
    exact kM0.2 i hi
  · refine QT.ite (fun h => absurd ((hRE 0 (by omega)).mp h) hb0) (fun h35 => ?_)
    refine QT.lt (fun z4 hz4 => ?_)
    have n799 : (799 : Int32).toNatClampNeg = 799 := by decide
    unfold f_X11_rootType
    rw [sbnd, n799]
    dsimp only
    have c4 : CH [] [46, 57, 63, 64, 65, 66] u (stI (stI z4 0 57 0) 0 46 0) := by
      rw [hz4]
      exact (((((CH.rf.o (by decide)).o (by decide)).o (by decide)).o (by decide)).o (by decide)).o (by decide)
    have g33 : (stI (stI (stI u 0 66 0) 0 63 (400 * p0)) 0 64 0).1 33 m = τ.1 33 m := uc.1 33 (by decide) (by decide) ▸ rfl
    have zz : (stI (stI z4 0 57 0) 0 46 0).1 0 = upd (upd (upd (upd (upd (upd (u.1 0) 66 0) 63 (400 * p0)) 64 0) 65 (τ.1 33 m)) 57 0) 46 0 := by
      rw [stI_at, stI_at, hz4, g33, stI_at, stI_at, stI_at, stI_at]
    have zL : (stI (stI z4 0 57 0) 0 46 0).2 = u.2 := by rw [hz4]; rfl
    have zc : ∀ c, c ≠ 0 → (stI (stI z4 0 57 0) 0 46 0).1 c = u.1 c := fun c hc => by rw [stI_ne hc, stI_ne hc, hz4, stI_ne hc, stI_ne hc, stI_ne hc, stI_ne hc]
    clear hz4
    generalize stI (stI z4 0 57 0) 0 46 0 = z at c4 zz zL zc ⊢
    have zPP := (uPP.ch c4 (by decide)).root
    have T2 : (stI (stI z 2 799 7) 3 799 0).1 2 799 = 7 := by rw [stI_ne (by omega), stI_at, upA rfl]
    have T3 : (stI (stI z 2 799 7) 3 799 0).1 3 799 = 0 := by rw [stI_at, upA rfl]
    have Tc : ∀ c, c ≠ 2 → c ≠ 3 → (stI (stI z 2 799 7) 3 799 0).1 c = z.1 c := fun c c2 c3 => by rw [stI_ne c3, stI_ne c2]
    have TL : (stI (stI z 2 799 7) 3 799 0).2 = z.2 := rfl
    have kTB : KTB τ (stI (stI z 2 799 7) 3 799 0) := by
      have k1 : KTB τ u := by
        refine ⟨fun c hc => uc.1 c (fun e => by rw [e] at hc; revert hc; decide) (fun h => ?_), fun i _ => ⟨by rw [uc.1 2 (by decide) (by decide)], by rw [uc.1 3 (by decide) (by decide)]⟩, fun c hc => ?_⟩
        · simp only [List.mem_cons, List.not_mem_nil, or_false] at h
          rw [h] at hc
          revert hc
          decide
        · simp only [List.mem_cons, List.not_mem_nil, or_false] at hc
          obtain ⟨_, _, c9, c12, c14, c17, c18⟩ := uc
          rcases hc with h | h | h | h | h
          · rw [h, c9]
          · rw [h, c12]
          · rw [h, c14]
          · rw [h, c17]
          · rw [h, c18]
      have k2 : KTB τ z := ⟨fun c hc => (zc c (fun e => by rw [e] at hc; revert hc; decide)).trans (k1.1 c hc), fun i hi => by rw [zc 2 (by omega), zc 3 (by omega)]; exact k1.2.1 i hi, fun c hc => by rw [zL]; exact k1.2.2 c hc⟩
      exact k2.t
    generalize hT : stI (stI z 2 799 7) 3 799 0 = T at zPP T2 T3 Tc TL kTB ⊢
    have T0 : T.1 0 = z.1 0 := Tc 0 (by omega) (by omega)
    have T35 : T.1 35 = u.1 35 := (Tc 35 (by omega) (by omega)).trans (zc 35 (by omega))
    have kMT : KRM τ T := by
      refine ⟨fun c c0 c2 c3 c20 c23 c35 c36 c41 => (Tc c c2 c3).trans ((zc c c0).trans (kM0.1 c c0 c2 c3 c20 c23 c35 c36 c41)), fun i hi => ?_⟩
      have hi2 := hi
      simp only [List.mem_cons, List.not_mem_nil, or_false, not_or] at hi2
      rw [T0, zz, upN (by omega), upN (by omega), upN (by omega), upN (by omega), upN (by omega), upN (by omega)]
      exact kM0.2 i hi
    refine QT.sw ?_
    rw [sbnd]
    dsimp only
    rw [if_neg (fun h9 => hb0 ((a_has (by omega)).mp h9)), sbnd]
    dsimp only
    refine QT.ite (fun h => absurd h one_ne) (fun _ => ?_)
    have root : ∀ (v : Int32) (k : Nat) (s : ST), v.toInt = k → k < 6 → f_X5_rootType 4 v s = some (s.1 6 k, s) := fun v k s hv hk => by
      unfold f_X5_rootType
      rw [if_neg (fun h => by have := Int32.lt_iff_toInt_lt.mp h; omega), if_neg (fun h => by have := Int32.le_iff_toInt_le.mp h; omega), if_pos (by omega), show v.toNatClampNeg = k from nC hv]
    rw [root _ p S ep (by omega), sbnd]
    dsimp only
    rw [root p1 q S h1 (by omega), sbnd]
    dsimp only
    have hPp : PHB 4 p S T := (hT5 p hp).keep (by omega) kTS kTB.kr
    have hPq : PHB 4 q S T := (hT5 q hq).keep (by omega) kTS kTB.kr
    have hRST : RST p q S T := by
      refine ⟨⟨⟨by omega, by omega⟩, ⟨?_, ?_⟩, ⟨hPp, hPq⟩, zPP.1⟩, fun k hk => by rw [T35]; exact hRE k hk, zPP⟩
      · rw [T0, zz, upN (by omega), upN (by omega), upN (by omega), upN (by omega), upN (by omega), upN (by omega), u53]
        exact ep
      · rw [T0, zz, upN (by omega), upN (by omega), upN (by omega), upN (by omega), upN (by omega), upN (by omega), u54]
        exact h1
    have hRSS : RSS b t S := ⟨SR, by rw [S1, yt, upN (by omega)]; exact hcap, hPp.cnt.2.2⟩
    have hXS : EHX S := EHB.at hX kTS
    have e400 := mlE (k := 400) (y := p0) 400 l400 (by omega) (by omega)
    have e38 : S.1 38 = σ.1 38 := by rw [S1]; exact y0 38 (by omega) (by omega)
    have e34 : T.1 34 = τ.1 34 := (Tc 34 (by omega) (by omega)).trans ((zc 34 (by omega)).trans (uc.1 34 (by decide) (by decide)))
    have hC : RCX b t m S T S T 0 := by
      refine ⟨⟨KRA.rf hb, KRB.rf⟩, ?_, ?_, ?_, by omega⟩
      · unfold RPS
        rw [S1, yb, T0, zz]
        have a5 : upd (upd (upd (upd (upd (σ.1 b) 4 p0) 5 0) 6 (σ.1 39 m)) 7 0) 10 0 5 = 0 := by rw [upN (by omega), upN (by omega), upN (by omega), upA rfl]
        have a6 : upd (upd (upd (upd (upd (σ.1 b) 4 p0) 5 0) 6 (σ.1 39 m)) 7 0) 10 0 6 = σ.1 39 m := by rw [upN (by omega), upN (by omega), upA rfl]
        have a7 : upd (upd (upd (upd (upd (σ.1 b) 4 p0) 5 0) 6 (σ.1 39 m)) 7 0) 10 0 7 = 0 := by rw [upN (by omega), upA rfl]
        have a4 : upd (upd (upd (upd (upd (σ.1 b) 4 p0) 5 0) 6 (σ.1 39 m)) 7 0) 10 0 4 = p0 := by rw [upN (by omega), upN (by omega), upN (by omega), upN (by omega), upA rfl]
        have b64 : upd (upd (upd (upd (upd (upd (u.1 0) 66 0) 63 (400 * p0)) 64 0) 65 (τ.1 33 m)) 57 0) 46 0 64 = 0 := by rw [upN (by omega), upN (by omega), upN (by omega), upA rfl]
        have b65 : upd (upd (upd (upd (upd (upd (u.1 0) 66 0) 63 (400 * p0)) 64 0) 65 (τ.1 33 m)) 57 0) 46 0 65 = τ.1 33 m := by rw [upN (by omega), upN (by omega), upA rfl]
        have b63 : upd (upd (upd (upd (upd (upd (u.1 0) 66 0) 63 (400 * p0)) 64 0) 65 (τ.1 33 m)) 57 0) 46 0 63 = 400 * p0 := by rw [upN (by omega), upN (by omega), upN (by omega), upN (by omega), upA rfl]
        rw [a5, a6, a7, a4, b64, b65, b63, ← S1, e38, e34]
        exact ⟨⟨rfl, h0, hm⟩, ⟨rfl, s39⟩, ⟨by omega, by omega, by omega, by omega⟩, sby⟩
      · rw [S1, yt, upA rfl]
        exact l0
      · rw [T0, zz, upA rfl]
        exact l0
    have hT35 : ¬ T.1 35 0 = 0 := by rw [T35]; exact h35
    have hR := r_root (m := m) hb hRST hRSS hXS (by rw [T2]; decide) (by rw [T3]; decide) hT35 hC 158 339
    have hboth : QT (f_T_X4_take b t (S.1 6 p) (S.1 6 q) (-1) 0 0 S) (fun s => QT (f_T_X11_reads 799 799 0 (-1) 0 T) (fun w => ROUT b (RVP b t m q 0 S T (S.1 6 q) 799 0 (-1) 0 [] [] S T) s w ∧ KRA b t S s ∧ KRB T w.2)) := fun s es w ew => ⟨hR s es w ew, wr_T_X4_take (s := S) rfl rfl (KRA.rf hb) s es, wr_T_X11_reads (s := T) KRB.rf w ew⟩
    refine QT.bnd2 hboth (fun s w hsw => ?_)
    obtain ⟨hO, kA, kB⟩ := hsw
    have kNs : KRN b t σ s := kNS.kra kA
    have kMw : KRM τ w.2 := kMT.krb kB
    obtain ⟨wv, ws⟩ := w
    dsimp only at hO kB kMw ⊢
    have kNc : ∀ z, KRA b t S z → KRN b t σ (stI z t 1 0) := fun z hz => (kNS.kra hz).clr 0
    rcases hO with ⟨f7, w0⟩ | ⟨w1, hV⟩
    · -- it failed
      have w0 : wv = 0 := w0
      refine QT.ite (fun h => absurd h f7) (fun _ => ?_)
      refine (a_run129F f7).mono (fun qa hqa => ?_)
      unfold f_X11_readsAll_106
      refine QT.ite (fun _ => QT.ite (fun _ => QT.ret ?_) (fun h => absurd w0 h)) (fun h => absurd w0 h)
      refine ⟨⟨by rw [hqa.2]; exact kNc s kA, kMw⟩, .inl ⟨Int32.toInt_inj.mp (hqa.1.trans (show -3 = (-3 : Int32).toInt by decide)), .inr hqa.1, by rw [hqa.2, stI_at, upA rfl]; exact l0⟩⟩
    · have w1 : wv = 1 := w1
      obtain ⟨e, hC9, he, hVal, ⟨⟨v1, v2⟩, ⟨v3, v4⟩, v5⟩, _, _⟩ := hV
      obtain ⟨_, hR9, c1, c46, ce⟩ := hC9
      have hR9 : RPS b m s ws := hR9
      have f7 : s.1 b 7 = 0 := hR9.1.1
      have e5 : s.1 b 5 = ws.1 0 64 := hR9.2.1.1
      have e6 : s.1 b 6 = ws.1 0 65 := hR9.2.1.2
      refine QT.ite (fun _ => ?_) (fun h => absurd f7 h)
      rw [e5, e6]
      refine QT.ile (fun hle => ?_) (fun hgt => ?_)
      · -- read
        refine (a_run129S f7).mono (fun qa hqa => ?_)
        refine QT.ite (fun h => by rw [w1] at h; exact absurd h one_ne) (fun _ => ?_)
        refine QT.ile (fun _ => ?_) (fun h => by omega)
        unfold f_X11_readsAll_106
        refine QT.ite (fun h => by rw [w1] at h; exact absurd h one_ne) (fun _ => QT.ret ?_)
        have kNq : KRN b t σ qa.2 := by
          refine ⟨fun c a d => (hqa.2.1.1 c (by omega) (by omega)).trans (kNs.1 c a d), fun i hi => ?_, fun c a d e => by rw [hqa.2.1.2]; exact kNs.2.2.1 c a d e, by rw [hqa.2.1.2]; exact kNs.2.2.2.1, fun c hc => by rw [hqa.2.1.2]; exact kNs.2.2.2.2 c hc⟩
          rw [hqa.2.1.1 t (by omega) (by omega)]
          exact kNs.2.1 i hi
        have hTG := hPq.tg (by omega) (by rw [T2]; decide) (by rw [T3]; decide)
        refine ⟨⟨kNq, kMw⟩, .inr ⟨rfl, S, T, s, e, ⟨hPq, by omega, hTG⟩, ⟨kA.kta, kA, kB⟩, ⟨hqa.1, hqa.2.1⟩, hVal, ⟨⟨he, ce⟩, c1, c46, by rw [hqa.2.2]; exact c1⟩, ?_, ?_, ?_, ?_, v5⟩⟩
        · rw [v1]; exact lm
        · rw [v2]; exact l0
        · show (ws.1 24 0).toInt = -1
          rw [v3]; exact lm
        · show (ws.1 25 0).toInt = 0
          rw [v4]; exact l0
      · -- bytes are left
        refine QT.bnd (Q := fun z => ¬ z.1 b 7 = 0 ∧ KRA b t S z) (fun z ez => ⟨a_failed hb 14 _ s (by decide) z ez, wr_X4_fail rfl kA z ez⟩) (fun z hz => ?_)
        refine (a_run129F hz.1).mono (fun qa hqa => ?_)
        refine QT.ite (fun h => by rw [w1] at h; exact absurd h one_ne) (fun _ => ?_)
        refine QT.ile (fun h => by omega) (fun _ => ?_)
        refine QT.bnd (Q := fun q9 => q9.1 = 0 ∧ KRB T q9.2) (fun q9 e9 => ⟨q_fails 14 _ ws q9 e9, wr_X11_fails kB q9 e9⟩) (fun q9 h9 => ?_)
        unfold f_X11_readsAll_106
        refine QT.ite (fun _ => QT.ret ?_) (fun h => absurd h9.1 h)
        refine ⟨⟨by rw [hqa.2]; exact kNc z hz.2, kMT.krb h9.2⟩, .inl ⟨Int32.toInt_inj.mp (hqa.1.trans (show -3 = (-3 : Int32).toInt by decide)), .inr hqa.1, by rw [hqa.2, stI_at, upA rfl]; exact l0⟩⟩
/-! the pairs of plans that are kept, both sides -/
/-- one put to the front, those ahead of it behind it -/
def SHF (f g : Nat → Int32) (v : Int32) (k : Nat) : Prop := ∀ i, g i = if i = 0 then v else if i ≤ k then f (i - 1) else f i
/-- a pair used -/
def USD (v : Int32) (f g : Nat → Int32) (c c' fo fo' nf nf' : Int32) : Prop := ((∀ i : Nat, (i : Int) < c.toInt → ¬ f i = v) ∧ fo' = fo ∧ nf' = nf + 1 ∧ (c.toInt = 4 ∧ c'.toInt = 4 ∨ c.toInt < 4 ∧ c'.toInt = c.toInt + 1) ∧ SHF f g v (c'.toInt.toNat - 1)) ∨ ∃ k : Nat, (k : Int) < c.toInt ∧ f k = v ∧ fo' = fo + 1 ∧ nf' = nf ∧ c' = c ∧ SHF f g v k
/-- the pairs kept, on both sides -/
def KPR (σ τ : ST) : Prop := (σ.1 48 1 = τ.1 0 92 ∧ 0 ≤ (τ.1 0 92).toInt ∧ (τ.1 0 92).toInt ≤ 4) ∧ (σ.1 48 2 = τ.1 0 93 ∧ σ.1 48 3 = τ.1 0 94) ∧ (∀ i : Nat, (i : Int) < (τ.1 0 92).toInt → σ.1 49 i = τ.1 55 i) ∧ ∀ i j : Nat, i < j → (j : Int) < (τ.1 0 92).toInt → ¬ τ.1 55 i = τ.1 55 j
theorem shf_step {f f1 g : Nat → Int32} {v : Int32} {k : Nat} (hk : 0 < k) (h1 : ∀ j, f1 j = if j = k then f (k - 1) else f j) (h : SHF f1 g v (k - 1)) : SHF f g v k := by
  intro i
  rw [h i]
  by_cases h0 : i = 0
  · rw [if_pos h0, if_pos h0]
  · rw [if_neg h0, if_neg h0]
    by_cases h2 : i ≤ k - 1
    · rw [if_pos h2, if_pos (by omega), h1, if_neg (by omega)]
    · rw [if_neg h2, h1]
      by_cases h3 : i = k
      · rw [if_pos h3, if_pos (by omega), h3]
      · rw [if_neg h3, if_neg (by omega)]
theorem a_use97 (v : Int32) : ∀ (n k : Nat) (x5 : Int32) (σ : ST), x5.toInt = k → QT (f_X9_use_97 n v x5 σ) (fun s => (∀ c, c ≠ 49 → s.1 c = σ.1 c) ∧ s.2 = σ.2 ∧ SHF (σ.1 49) (s.1 49) v k) := by
  have l0 := li_0
  have l1 := li_1
  have lm := li_m1
  intro n
  induction n with
  | zero =>
    intro k x5 σ _
    rw [f_X9_use_97]
    exact QT.none
  | succ n ih =>
    intro k x5 σ h5
    rw [f_X9_use_97]
    refine QT.ile (fun hle => QT.ret ⟨fun c hc => stI_ne hc, rfl, fun i => ?_⟩) (fun hlt => ?_)
    · have n0 : (0 : Int32).toNatClampNeg = 0 := by decide
      rw [n0, stI_at]
      by_cases hi : i = 0
      · rw [upA hi, if_pos hi]
      · rw [upN hi, if_neg hi, if_neg (by omega)]
    · refine QT.grd (fun hg1 => QT.grd (fun hg2 => ?_))
      have e1 := il_subE (x := x5) (y := 1) (by omega) (by omega)
      have e2 := il_addE (x := x5) (y := -1) (by omega) (by omega)
      have n1 : (x5 - 1).toNatClampNeg = k - 1 := nC (by omega)
      have n2 : x5.toNatClampNeg = k := nC h5
      rw [n1, n2]
      refine (ih (k - 1) (x5 + -1) (stI σ 49 k (σ.1 49 (k - 1))) (by omega)).mono (fun s hs => ?_)
      obtain ⟨s1, s2, s3⟩ := hs
      refine ⟨fun c hc => (s1 c hc).trans (stI_ne hc), s2, shf_step (f1 := (stI σ 49 k (σ.1 49 (k - 1))).1 49) (by omega) (fun j => ?_) s3⟩
      rw [stI_at]
      by_cases hj : j = k
      · rw [upA hj, if_pos hj]
      · rw [upN hj, if_neg hj]
theorem q_use105 (v : Int32) : ∀ (n k : Nat) (x5 : Int32) (σ : ST), x5.toInt = k → QT (f_X11_uses_105 n v x5 σ) (fun s => (∀ c, c ≠ 55 → s.1 c = σ.1 c) ∧ s.2 = σ.2 ∧ SHF (σ.1 55) (s.1 55) v k) := by
  have l0 := li_0
  have l1 := li_1
  have lm := li_m1
  intro n
  induction n with
  | zero =>
    intro k x5 σ _
    rw [f_X11_uses_105]
    exact QT.none
  | succ n ih =>
    intro k x5 σ h5
    rw [f_X11_uses_105]
    refine QT.ile (fun hle => QT.ret ⟨fun c hc => stI_ne hc, rfl, fun i => ?_⟩) (fun hlt => ?_)
    · have n0 : (0 : Int32).toNatClampNeg = 0 := by decide
      rw [n0, stI_at]
      by_cases hi : i = 0
      · rw [upA hi, if_pos hi]
      · rw [upN hi, if_neg hi, if_neg (by omega)]
    · refine QT.grd (fun hg1 => QT.grd (fun hg2 => ?_))
      have e1 := il_subE (x := x5) (y := 1) (by omega) (by omega)
      have e2 := il_addE (x := x5) (y := -1) (by omega) (by omega)
      have n1 : (x5 - 1).toNatClampNeg = k - 1 := nC (by omega)
      have n2 : x5.toNatClampNeg = k := nC h5
      rw [n1, n2]
      refine (ih (k - 1) (x5 + -1) (stI σ 55 k (σ.1 55 (k - 1))) (by omega)).mono (fun s hs => ?_)
      obtain ⟨s1, s2, s3⟩ := hs
      refine ⟨fun c hc => (s1 c hc).trans (stI_ne hc), s2, shf_step (f1 := (stI σ 55 k (σ.1 55 (k - 1))).1 55) (by omega) (fun j => ?_) s3⟩
      rw [stI_at]
      by_cases hj : j = k
      · rw [upA hj, if_pos hj]
      · rw [upN hj, if_neg hj]
/-- what a use leaves of the class, and of the reference -/
def USA (v : Int32) (σ s : ST) : Prop := (∀ c, c ≠ 48 → c ≠ 49 → s.1 c = σ.1 c) ∧ s.2 = σ.2 ∧ (∀ i, i ≠ 1 → i ≠ 2 → i ≠ 3 → s.1 48 i = σ.1 48 i) ∧ USD v (σ.1 49) (s.1 49) (σ.1 48 1) (s.1 48 1) (σ.1 48 2) (s.1 48 2) (σ.1 48 3) (s.1 48 3)
def USB (v : Int32) (τ w : ST) : Prop := (∀ c, c ≠ 0 → c ≠ 55 → w.1 c = τ.1 c) ∧ w.2 = τ.2 ∧ (∀ i, i ≠ 92 → i ≠ 93 → i ≠ 94 → w.1 0 i = τ.1 0 i) ∧ USD v (τ.1 55) (w.1 55) (τ.1 0 92) (w.1 0 92) (τ.1 0 93) (w.1 0 93) (τ.1 0 94) (w.1 0 94)
theorem a_use (p0 p1 : Int32) (σ : ST) (hc : 0 ≤ (σ.1 48 1).toInt ∧ (σ.1 48 1).toInt ≤ 4) : QT (f_X9_use p0 p1 σ) (fun s => USA (10 * p0 + p1) σ s) := by
  have l0 := li_0
  have l1 := li_1
  have l3 := li_3
  have l4 := li_4
  have lm := li_m1
  unfold f_X9_use
  generalize 10 * p0 + p1 = v
  have key : ∀ (n k : Nat) (x4 : Int32), x4.toInt = k → (k : Int) ≤ (σ.1 48 1).toInt → (∀ i, i < k → ¬ σ.1 49 i = v) → QT (f_X9_use_10 n v x4 σ) (fun s => USA v σ s) := by
    intro n
    induction n with
    | zero =>
      intro k x4 _ _ _
      rw [f_X9_use_10]
      exact QT.none
    | succ n ih =>
      intro k x4 h4 hk hno
      rw [f_X9_use_10]
      unfold f_X9_use_35 f_X9_use_89
      refine QT.ile (fun hle => ?_) (fun hlt => ?_)
      · -- none
        refine QT.ile (fun _ => ?_) (fun h => by omega)
        refine QT.lt (fun z hz => ?_)
        have z1 : (stI σ 48 3 (σ.1 48 3 + 1)).1 48 1 = σ.1 48 1 := by rw [stI_at, upN (by omega)]
        rw [z1] at hz
        have ea := il_addE (x := σ.1 48 1) (y := 1) (by omega) (by omega)
        have zc : ∀ c, c ≠ 48 → z.1 c = σ.1 c := fun c hc9 => by rw [hz, stI_ne hc9, stI_ne hc9]
        have zL : z.2 = σ.2 := by rw [hz]; rfl
        have z48 : z.1 48 = upd (upd (σ.1 48) 3 (σ.1 48 3 + 1)) 1 (if 4 < σ.1 48 1 + 1 then 4 else σ.1 48 1 + 1) := by rw [hz, stI_at, stI_at]
        clear hz
        have zi1 : (z.1 48 1).toInt = if (σ.1 48 1).toInt = 4 then 4 else (σ.1 48 1).toInt + 1 := by
          rw [z48, upA rfl]
          by_cases h9 : 4 < σ.1 48 1 + 1
          · have h9' := il_lt h9
            rw [if_pos h9, if_pos (by omega)]
            exact l4
          · have h9' := il_nlt h9
            rw [if_neg h9, if_neg (by omega)]
            exact ea
        have zr : (σ.1 48 1).toInt = 4 ∧ (z.1 48 1).toInt = 4 ∨ (σ.1 48 1).toInt < 4 ∧ (z.1 48 1).toInt = (σ.1 48 1).toInt + 1 := by
          by_cases h9 : (σ.1 48 1).toInt = 4
          · rw [if_pos h9] at zi1
            exact .inl ⟨h9, zi1⟩
          · rw [if_neg h9] at zi1
            exact .inr ⟨by omega, zi1⟩
        have es := il_subE (x := z.1 48 1) (y := 1) (by omega) (by omega)
        rw [if_neg (fun h9 => by have := il_lt h9; omega)]
        refine (a_use97 v FU ((z.1 48 1).toInt.toNat - 1) _ z (by omega)).mono (fun s hs => ?_)
        obtain ⟨s1, s2, s3⟩ := hs
        have s48 : s.1 48 = z.1 48 := s1 48 (by omega)
        rw [zc 49 (by omega)] at s3
        refine ⟨fun c c8 c9 => (s1 c c9).trans (zc c c8), s2.trans zL, fun i i1 i2 i3 => by rw [s48, z48, upN i1, upN i3], .inl ⟨fun i hi => hno i (by omega), ?_, ?_, ?_, ?_⟩⟩
        · rw [s48, z48, upN (by omega), upN (by omega)]
        · rw [s48, z48, upN (by omega), upA rfl]
        · rw [s48]
          exact zr
        · rw [s48]
          exact s3
      · unfold f_X9_pairAt
        rw [if_neg (fun h9 => by have := il_lt h9; omega), if_neg (fun h9 => by have := il_le h9; omega), if_neg (fun h9 => by have := il_le h9; omega), if_pos (by omega), sbnd]
        dsimp only
        have n4 : x4.toNatClampNeg = k := nC h4
        rw [n4]
        refine QT.ite (fun he => ?_) (fun he => ?_)
        · refine QT.ile (fun h => by omega) (fun _ => ?_)
          rw [if_neg (fun h9 => by have := il_lt h9; omega)]
          refine (a_use97 v FU k x4 _ h4).mono (fun s hs => ?_)
          obtain ⟨s1, s2, s3⟩ := hs
          have s48 : s.1 48 = upd (σ.1 48) 2 (σ.1 48 2 + 1) := by rw [s1 48 (by omega), stI_at]
          rw [stI_ne (by omega)] at s3
          refine ⟨fun c c8 c9 => (s1 c c9).trans (stI_ne c8), s2, fun i i1 i2 i3 => by rw [s48, upN i2], .inr ⟨k, by omega, he, ?_, ?_, ?_, s3⟩⟩
          · rw [s48, upA rfl]
          · rw [s48, upN (by omega)]
          · rw [s48, upN (by omega)]
        · have ea := il_addE (x := x4) (y := 1) (by omega) (by omega)
          refine ih (k + 1) (x4 + 1) (by omega) (by omega) (fun i hi => ?_)
          by_cases h9 : i = k
          · rw [h9]
            exact he
          · exact hno i (by omega)
  exact key FU 0 0 l0 (by omega) (fun i hi => by omega)
theorem q_uses103 (v x2 : Int32) {k : Nat} (τ : ST) (h2 : x2.toInt = k) : QT (f_X11_uses_103 v x2 τ) (fun s => (∀ c, c ≠ 55 → s.1 c = τ.1 c) ∧ s.2 = τ.2 ∧ SHF (τ.1 55) (s.1 55) v k) := q_use105 v FU k x2 τ h2
theorem q_uses (v : Int32) (τ : ST) (hc : 0 ≤ (τ.1 0 92).toInt ∧ (τ.1 0 92).toInt ≤ 4) : QT (f_X11_uses v τ) (fun w => USB v τ w) := by
  have l0 := li_0
  have l1 := li_1
  have l4 := li_4
  have lm := li_m1
  unfold f_X11_uses
  have key : ∀ (n k : Nat) (x2 x3 : Int32), x3.toInt = k → (k : Int) ≤ (τ.1 0 92).toInt → ((x2.toInt = -1 ∧ ∀ i, i < k → ¬ τ.1 55 i = v) ∨ ∃ j : Nat, x2.toInt = j ∧ j < k ∧ τ.1 55 j = v) → QT (f_X11_uses_4 n v x2 x3 τ) (fun w => USB v τ w) := by
    intro n
    induction n with
    | zero =>
      intro k x2 x3 _ _ _
      rw [f_X11_uses_4]
      exact QT.none
    | succ n ih =>
      intro k x2 x3 h3 hk hx
      rw [f_X11_uses_4]
      refine QT.ile (fun hle => ?_) (fun hlt => ?_)
      · unfold f_X11_uses_48 f_X11_uses_66
        refine QT.ilt (fun hn => ?_) (fun hn => ?_)
        · -- none
          have hno : ∀ i, i < k → ¬ τ.1 55 i = v := by
            rcases hx with h | ⟨j, h, _, _⟩
            · exact h.2
            · omega
          refine QT.ile (fun h => by omega) (fun _ => ?_)
          refine QT.ile (fun h => by omega) (fun _ => ?_)
          have y92 : (stI (stI τ 0 93 (τ.1 0 93 + 0)) 0 94 ((stI τ 0 93 (τ.1 0 93 + 0)).1 0 94 + 1)).1 0 92 = τ.1 0 92 := by rw [stI_at, upN (by omega), stI_at, upN (by omega)]
          have y0 : (stI (stI τ 0 93 (τ.1 0 93 + 0)) 0 94 ((stI τ 0 93 (τ.1 0 93 + 0)).1 0 94 + 1)).1 0 = upd (upd (τ.1 0) 93 (τ.1 0 93 + 0)) 94 (τ.1 0 94 + 1) := by
            rw [stI_at, stI_at, upN (by omega)]
          have yc : ∀ c, c ≠ 0 → (stI (stI τ 0 93 (τ.1 0 93 + 0)) 0 94 ((stI τ 0 93 (τ.1 0 93 + 0)).1 0 94 + 1)).1 c = τ.1 c := fun c h => by rw [stI_ne h, stI_ne h]
          have yL : (stI (stI τ 0 93 (τ.1 0 93 + 0)) 0 94 ((stI τ 0 93 (τ.1 0 93 + 0)).1 0 94 + 1)).2 = τ.2 := rfl
          rw [y92]
          generalize stI (stI τ 0 93 (τ.1 0 93 + 0)) 0 94 ((stI τ 0 93 (τ.1 0 93 + 0)).1 0 94 + 1) = y at y0 yc yL
          have e93 : τ.1 0 93 + 0 = τ.1 0 93 := Int32.add_zero _
          have fin : ∀ c' : Int32, ((τ.1 0 92).toInt = 4 ∧ c'.toInt = 4 ∨ (τ.1 0 92).toInt < 4 ∧ c'.toInt = (τ.1 0 92).toInt + 1) → QT (f_X11_uses_93 v c' y) (fun w => USB v τ w) := fun c' hc' => by
            unfold f_X11_uses_93
            have g : (stI y 0 92 c').1 0 92 = c' := by rw [stI_at, upA rfl]
            rw [g]
            have es := il_subE (x := c') (y := 1) (by omega) (by omega)
            refine (q_uses103 v (c' - 1) (k := c'.toInt.toNat - 1) (stI y 0 92 c') (by omega)).mono (fun w hw => ?_)
            obtain ⟨w1, w2, w3⟩ := hw
            rw [stI_ne (by omega), yc 55 (by omega)] at w3
            have w0 : w.1 0 = upd (y.1 0) 92 c' := by rw [w1 0 (by omega), stI_at]
            refine ⟨fun c c0 c55 => (w1 c c55).trans ((stI_ne c0).trans (yc c c0)), w2.trans yL, fun i i2 i3 i4 => by rw [w0, upN i2, y0, upN i4, upN i3], .inl ⟨fun i hi => hno i (by omega), ?_, ?_, ?_, ?_⟩⟩
            · rw [w0, upN (by omega), y0, upN (by omega), upA rfl, e93]
            · rw [w0, upN (by omega), y0, upA rfl]
            · rw [w0, upA rfl]
              exact hc'
            · rw [w0, upA rfl]
              exact w3
          refine QT.ile (fun h4 => fin 4 (.inl ⟨by omega, l4⟩)) (fun h4 => ?_)
          have ea := il_addE (x := τ.1 0 92) (y := 1) (by omega) (by omega)
          exact fin _ (.inr ⟨by omega, ea⟩)
        · have hx : ∃ j : Nat, x2.toInt = j ∧ j < k ∧ τ.1 55 j = v := by
            rcases hx with ⟨h, _⟩ | h
            · omega
            · exact h
          obtain ⟨j, j1, j2, j3⟩ := hx
          refine QT.ile (fun _ => ?_) (fun h => by omega)
          refine QT.ile (fun _ => ?_) (fun h => by omega)
          have y0 : (stI (stI τ 0 93 (τ.1 0 93 + 1)) 0 94 ((stI τ 0 93 (τ.1 0 93 + 1)).1 0 94 + 0)).1 0 = upd (upd (τ.1 0) 93 (τ.1 0 93 + 1)) 94 (τ.1 0 94 + 0) := by
            rw [stI_at, stI_at, upN (by omega)]
          have yc : ∀ c, c ≠ 0 → (stI (stI τ 0 93 (τ.1 0 93 + 1)) 0 94 ((stI τ 0 93 (τ.1 0 93 + 1)).1 0 94 + 0)).1 c = τ.1 c := fun c h => by rw [stI_ne h, stI_ne h]
          have yL : (stI (stI τ 0 93 (τ.1 0 93 + 1)) 0 94 ((stI τ 0 93 (τ.1 0 93 + 1)).1 0 94 + 0)).2 = τ.2 := rfl
          generalize stI (stI τ 0 93 (τ.1 0 93 + 1)) 0 94 ((stI τ 0 93 (τ.1 0 93 + 1)).1 0 94 + 0) = y at y0 yc yL
          have e94 : τ.1 0 94 + 0 = τ.1 0 94 := Int32.add_zero _
          refine (q_uses103 v x2 y j1).mono (fun w hw => ?_)
          obtain ⟨w1, w2, w3⟩ := hw
          rw [yc 55 (by omega)] at w3
          have w0 : w.1 0 = y.1 0 := w1 0 (by omega)
          refine ⟨fun c c0 c55 => (w1 c c55).trans (yc c c0), w2.trans yL, fun i i2 i3 i4 => by rw [w0, y0, upN i4, upN i3], .inr ⟨j, by omega, j3, ?_, ?_, ?_, w3⟩⟩
          · rw [w0, y0, upN (by omega), upA rfl]
          · rw [w0, y0, upA rfl, e94]
          · rw [w0, y0, upN (by omega), upN (by omega)]
      · refine QT.grd (fun _ => ?_)
        have n3 : x3.toNatClampNeg = k := nC h3
        have ea := il_addE (x := x3) (y := 1) (by omega) (by omega)
        unfold f_X11_uses_27
        rw [n3]
        refine QT.ite (fun he => ?_) (fun he => ?_)
        · exact ih (k + 1) x3 (x3 + 1) (by omega) (by omega) (.inr ⟨k, h3, by omega, he⟩)
        · refine ih (k + 1) x2 (x3 + 1) (by omega) (by omega) ?_
          rcases hx with ⟨h, h9⟩ | ⟨j, j1, j2, j3⟩
          · refine .inl ⟨h, fun i hi => ?_⟩
            by_cases e : i = k
            · rw [e]
              exact he
            · exact h9 i (by omega)
          · exact .inr ⟨j, j1, by omega, j3⟩
  exact key FU 0 (-1) 0 l0 (by omega) (.inl ⟨lm, fun i hi => by omega⟩)
/-- the pairs kept stay alike -/
theorem KPR.use {v : Int32} {σ τ s w : ST} (h : KPR σ τ) (hA : USA v σ s) (hB : USB v τ w) : KPR s w := by
  obtain ⟨⟨h1, h2, h3⟩, ⟨h4, h5⟩, h6, h7⟩ := h
  obtain ⟨_, _, _, uA⟩ := hA
  obtain ⟨_, _, _, uB⟩ := hB
  rw [h1] at uA
  rcases uA with ⟨a1, a2, a3, a4, a5⟩ | ⟨k, a1, a2, a3, a4, a5, a6⟩
  · rcases uB with ⟨b1, b2, b3, b4, b5⟩ | ⟨j, b1, b2, _⟩
    · have ec : (s.1 48 1).toInt = (w.1 0 92).toInt := by omega
      have ec' : s.1 48 1 = w.1 0 92 := Int32.toInt_inj.mp ec
      rw [ec] at a5
      refine ⟨⟨ec', by omega, by omega⟩, ⟨by rw [a2, b2, h4], by rw [a3, b3, h5]⟩, fun i hi => ?_, fun i j hij hj => ?_⟩
      · rw [a5 i, b5 i]
        by_cases i0 : i = 0
        · rw [if_pos i0, if_pos i0]
        · rw [if_neg i0, if_neg i0, if_pos (by omega), if_pos (by omega)]
          exact h6 (i - 1) (by omega)
      · rw [b5 i, b5 j, if_neg (show ¬ j = 0 by omega), if_pos (show j ≤ (w.1 0 92).toInt.toNat - 1 by omega)]
        by_cases i0 : i = 0
        · rw [if_pos i0]
          exact fun e => b1 (j - 1) (by omega) e.symm
        · rw [if_neg i0, if_pos (by omega)]
          exact h7 (i - 1) (j - 1) (by omega) (by omega)
    · exact absurd ((h6 j b1).trans b2) (a1 j b1)
  · rcases uB with ⟨b1, _⟩ | ⟨j, b1, b2, b3, b4, b5, b6⟩
    · exact absurd ((h6 k a1).symm.trans a2) (b1 k a1)
    · have ek : k = j := by
        have e9 : τ.1 55 k = τ.1 55 j := ((h6 k a1).symm.trans a2).trans b2.symm
        by_cases c1 : k < j
        · exact absurd e9 (h7 k j c1 b1)
        · by_cases c2 : j < k
          · exact absurd e9.symm (h7 j k c2 a1)
          · omega
      subst ek
      unfold KPR
      rw [b5]
      refine ⟨⟨by rw [a5], h2, h3⟩, ⟨by rw [a3, b3, h4], by rw [a4, b4, h5]⟩, fun i hi => ?_, fun i j hij hj => ?_⟩
      · rw [a6 i, b6 i]
        by_cases i0 : i = 0
        · rw [if_pos i0, if_pos i0]
        · rw [if_neg i0, if_neg i0]
          by_cases ik : i ≤ k
          · rw [if_pos ik, if_pos ik]
            exact h6 (i - 1) (by omega)
          · rw [if_neg ik, if_neg ik]
            exact h6 i (by omega)
      · rw [b6 i, b6 j, if_neg (show ¬ j = 0 by omega)]
        by_cases i0 : i = 0
        · rw [if_pos i0]
          by_cases jk : j ≤ k
          · rw [if_pos jk, ← b2]
            exact fun e => h7 (j - 1) k (by omega) (by omega) e.symm
          · rw [if_neg jk, ← b2]
            exact h7 k j (by omega) (by omega)
        · rw [if_neg i0]
          by_cases ik : i ≤ k
          · rw [if_pos ik]
            by_cases jk : j ≤ k
            · rw [if_pos jk]
              exact h7 (i - 1) (j - 1) (by omega) (by omega)
            · rw [if_neg jk]
              exact h7 (i - 1) j (by omega) (by omega)
          · rw [if_neg ik, if_neg (show ¬ j ≤ k by omega)]
            exact h7 i j hij (by omega)
