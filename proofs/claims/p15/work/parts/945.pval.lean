/-! a tree as bytes: both sides -/
theorem q_isRow (b : Nat) (x : Int32) (σ : ST) {r : Nat} (h : x.toInt = r) (h1 : (r : Int) < (σ.1 b 1).toInt) (h0 : (r : Int) < (σ.1 b 0).toInt) : QT (f_X7_isRow b x σ) (fun q => q.2 = σ ∧ q.1.toInt = 1) := (pt_isRow b x σ).mono (fun q hq => ⟨hq.1, by
  rcases hq.2 with h9 | h9
  · exact absurd ⟨by omega, by omega, by omega⟩ h9.2
  · exact h9.1⟩)
theorem q_sortAt {b : Nat} {x : Int32} {σ : ST} {r : Nat} (h : x.toInt = r) (h1 : (r : Int) < (σ.1 b 1).toInt) (h0 : (r : Int) < (σ.1 b 0).toInt) : QT (f_X7_sortAt b x σ) (fun q => q = (σ.1 (b + 1) r, σ)) := by
  have l0 := li_0
  have n := nC h
  unfold f_X7_sortAt
  rw [n]
  refine QT.bnd (q_isRow b x σ h h1 h0) (fun q hq => ?_)
  obtain ⟨w, s⟩ := q
  obtain ⟨e, hw⟩ := hq
  have e : s = σ := e
  subst e
  have hw : w.toInt = 1 := hw
  exact QT.ieq (fun h => by omega) (fun _ => QT.grd (fun _ => QT.ret rfl))
theorem q_sizeOf {b : Nat} {x : Int32} {σ : ST} {r : Nat} (h : x.toInt = r) (h1 : (r : Int) < (σ.1 b 1).toInt) (h0 : (r : Int) < (σ.1 b 0).toInt) : QT (f_X7_sizeOf b x σ) (fun q => q = (σ.1 (b + 4) r, σ)) := by
  have l0 := li_0
  have n := nC h
  unfold f_X7_sizeOf
  rw [n]
  refine QT.bnd (q_isRow b x σ h h1 h0) (fun q hq => ?_)
  obtain ⟨w, s⟩ := q
  obtain ⟨e, hw⟩ := hq
  have e : s = σ := e
  subst e
  have hw : w.toInt = 1 := hw
  exact QT.ieq (fun h => by omega) (fun _ => QT.grd (fun _ => QT.ret rfl))
theorem q_placeOf {b : Nat} {x : Int32} {σ : ST} {r : Nat} (h : x.toInt = r) (h1 : (r : Int) < (σ.1 b 1).toInt) (h0 : (r : Int) < (σ.1 b 0).toInt) : QT (f_X7_placeOf b x σ) (fun q => q = (σ.1 (b + 3) r, σ)) := by
  have l0 := li_0
  have n := nC h
  unfold f_X7_placeOf
  rw [n]
  refine QT.bnd (q_isRow b x σ h h1 h0) (fun q hq => ?_)
  obtain ⟨w, s⟩ := q
  obtain ⟨e, hw⟩ := hq
  have e : s = σ := e
  subst e
  have hw : w.toInt = 1 := hw
  exact QT.ieq (fun h => by omega) (fun _ => QT.grd (fun _ => QT.ret rfl))
theorem q_firstRow {b : Nat} {x : Int32} {σ : ST} {r : Nat} (h : x.toInt = r) (h1 : (r : Int) < (σ.1 b 1).toInt) (h0 : (r : Int) < (σ.1 b 0).toInt) : QT (f_X7_firstOf b x σ) (fun q => q = (σ.1 (b + 7) r, σ)) := by
  have l0 := li_0
  have n := nC h
  unfold f_X7_firstOf
  rw [n]
  refine QT.bnd (q_isRow b x σ h h1 h0) (fun q hq => ?_)
  obtain ⟨w, s⟩ := q
  obtain ⟨e, hw⟩ := hq
  have e : s = σ := e
  subst e
  have hw : w.toInt = 1 := hw
  exact QT.ieq (fun h => by omega) (fun _ => QT.grd (fun _ => QT.ret rfl))
theorem q_nextRow {b : Nat} {x : Int32} {σ : ST} {r : Nat} (h : x.toInt = r) (h1 : (r : Int) < (σ.1 b 1).toInt) (h0 : (r : Int) < (σ.1 b 0).toInt) : QT (f_X7_nextOf b x σ) (fun q => q = (σ.1 (b + 9) r, σ)) := by
  have l0 := li_0
  have n := nC h
  unfold f_X7_nextOf
  rw [n]
  refine QT.bnd (q_isRow b x σ h h1 h0) (fun q hq => ?_)
  obtain ⟨w, s⟩ := q
  obtain ⟨e, hw⟩ := hq
  have e : s = σ := e
  subst e
  have hw : w.toInt = 1 := hw
  exact QT.ieq (fun h => by omega) (fun _ => QT.grd (fun _ => QT.ret rfl))
theorem q_worthOf {b : Nat} {x : Int32} {σ : ST} {r : Nat} (h : x.toInt = r) (h1 : (r : Int) < (σ.1 b 1).toInt) (h0 : (r : Int) < (σ.1 b 0).toInt) : QT (f_X7_worthOf b x σ) (fun q => q = (σ.2.1 (b + 6) r, σ)) := by
  have l0 := li_0
  have n := nC h
  unfold f_X7_worthOf
  rw [n]
  refine QT.bnd (q_isRow b x σ h h1 h0) (fun q hq => ?_)
  obtain ⟨w, s⟩ := q
  obtain ⟨e, hw⟩ := hq
  have e : s = σ := e
  subst e
  have hw : w.toInt = 1 := hw
  exact QT.ieq (fun h => by omega) (fun _ => QT.grd (fun _ => QT.ret rfl))
/-- the class counts; what it counted, the reference writes -/
def BTH (ρB : ST) (k : Int) (a : Option ST) (σ : ST) (b : ST → Option ST) : Prop := QT a (fun s => (GRN k σ s ∧ KPK σ s) ∧ ∀ τ, KWR ρB τ → PKR σ τ → QT (b τ) (fun t => PKR s t ∧ KWR ρB t))
theorem BTH.mk {ρB : ST} {k : Int} {a : Option ST} {σ : ST} {b : ST → Option ST} (h1 : QT a (fun s => GRN k σ s)) (h2 : QT a (fun s => KPK σ s)) (h3 : ∀ τ, KWR ρB τ → PKR σ τ → QT a (fun s => QT (b τ) (fun t => PKR s t))) (h4 : ∀ τ, QT (b τ) (fun t => KWR τ t)) : BTH ρB k a σ b := fun s es => ⟨⟨h1 s es, h2 s es⟩, fun τ hw hk t et => ⟨h3 τ hw hk s es t et, hw.trans (h4 τ t et)⟩⟩
theorem BTH.seq {ρB : ST} {k1 k2 k : Int} {a : Option ST} {σ : ST} {b g : ST → Option ST} {f : ST → Option ST} (h : BTH ρB k1 a σ b) (hf : ∀ s, GRN k1 σ s → KPK σ s → BTH ρB k2 (f s) s g) (hk : k1 + k2 ≤ k) : BTH ρB k (a.bind f) σ (fun τ => (b τ).bind g) := by
  refine QT.bnd h (fun s hs => ?_)
  obtain ⟨⟨h1, h2⟩, h3⟩ := hs
  refine (hf s h1 h2).mono (fun u hu => ?_)
  obtain ⟨⟨k1, k2⟩, k3⟩ := hu
  exact ⟨⟨h1.trans k1 hk, h2.trans k2⟩, fun τ hw hp => QT.bnd (h3 τ hw hp) (fun t ht => k3 t ht.2 ht.1)⟩
theorem BTH.imp {ρB : ST} {k : Int} {a : Option ST} {σ : ST} {b b' : ST → Option ST} (h : BTH ρB k a σ b) (e : ∀ (τ : ST) (P : ST → Prop), KWR ρB τ → QT (b τ) P → QT (b' τ) P) : BTH ρB k a σ b' := QT.mono h (fun s hs => ⟨hs.1, fun τ hw hp => e τ _ hw (hs.2 τ hw hp)⟩)
theorem BTH.le {ρB : ST} {k k' : Int} {a : Option ST} {σ : ST} {b : ST → Option ST} (h : BTH ρB k a σ b) (e : k ≤ k') : BTH ρB k' a σ b := QT.mono h (fun s hs => ⟨⟨hs.1.1.mono e, hs.1.2⟩, hs.2⟩)
theorem BTH.rf {ρB σ : ST} {k : Int} (h : 0 ≤ k) {b : ST → Option ST} (e : ∀ τ, KWR ρB τ → QT (b τ) (fun t => t = τ)) : BTH ρB k (some σ) σ b := QT.ret ⟨⟨GRN.rf h, KPK.rf⟩, fun τ hw hp => (e τ hw).mono (fun t ht => by rw [ht]; exact ⟨hp, hw⟩)⟩
/-- the class goes on alone where the reference has no room left -/
theorem BTH.stop {ρB : ST} {k : Int} {a : Option ST} {σ : ST} {b b' : ST → Option ST} (h : BTH ρB k a σ b) (e : ∀ (τ : ST) (P : ST → Prop), KWR ρB τ → (τ.1 0 49 = 0 → QT (b τ) P) → (¬ τ.1 0 49 = 0 → P τ) → QT (b' τ) P) : BTH ρB k a σ b' := by
  refine QT.mono h (fun s hs => ⟨hs.1, fun τ hw hp => e τ _ hw (fun _ => hs.2 τ hw hp) (fun h9 => ⟨?_, hw⟩)⟩)
  refine ⟨hp.1, ?_⟩
  rcases hp.2 with h8 | h8
  · exact absurd h8.1 h9
  · have := hs.1.1.1
    exact .inr ⟨h8.1, h8.2.1, by omega⟩
theorem BTH.num {ρB σ : ST} (x : Int64) (hR : RMC 10 σ) : BTH ρB 10 (f_X2_putNumber x σ) σ (fun τ => f_X11_writesNumber x τ) := BTH.mk (qa_putNumber x σ hR) (wk_X2_putNumber (s := σ) KPK.rf) (fun τ _ hp => pk_putNumber x σ τ hp hR) (fun τ => wk_X11_writesNumber (s := τ) KWR.rf)
theorem RMC.le {σ : ST} {k j : Int} (h : RMC k σ) (e : j ≤ k) : RMC j σ := h.to (GRN.rf (k := 0) (by omega)) (by omega)
/-- all that packing rests on -/
def PKC (b p : Nat) (rm : Int) (S T ρ ρB : ST) : Prop := (b + 9 < 87 ∧ 20 ≤ b) ∧ (KTA S ρ ∧ (S.1 4 1).toInt ≤ 262) ∧ ∀ i : Nat, (i : Int) < rm → ∃ m, REC p rm S T (6 * p + i) m
theorem PKC.kta {b p : Nat} {rm : Int} {S T ρ ρB σ : ST} (h : PKC b p rm S T ρ ρB) (k : KPK ρ σ) : KTA S σ := h.2.1.1.trans k.kta
theorem CN.nil {nx : Nat → Int32} {x : Int32} {l : List Nat} (h : CN nx x l) (e : x.toInt = -1) : l = [] := by
  cases l with
  | nil => rfl
  | cons r l =>
    have := h.1
    omega
/-- rows of a tree, at σ as at ρ -/
theorem KPK.row {b : Nat} {ρ σ : ST} (h : KPK ρ σ) (hb : b + 9 < 87) {k : Nat} (hk : k ≤ 9) : σ.1 (b + k) = ρ.1 (b + k) := h.1 _ (by omega) (by omega)
theorem KPK.row0 {b : Nat} {ρ σ : ST} (h : KPK ρ σ) (hb : b + 9 < 87) : σ.1 b = ρ.1 b := h.1 _ (by omega) (by omega)
def VPK (rd : Prop) (b p : Nat) (rm : Int) (S T ρ ρB : ST) (n : Nat) (rV : Nat → Int32 → Int32 → Int32 → ST → Option ST) (rw_ : Int32 → ST → Option ST) : Prop := ∀ (tA tB : Int32) (A B : Nat × Nat) (d : Nat) (x y lev : Int32) (σ : ST), TG p rm S T d tA tB → VAL rd b p S T ρ ρB n tA tB A B → x.toInt = A.1 → y.toInt = B.1 → ((A.2 : Int) ≤ (ρ.1 b 1).toInt ∧ (A.2 : Int) ≤ (ρ.1 b 0).toInt) → (0 ≤ lev.toInt ∧ lev.toInt + n ≤ 32) → KPK ρ σ → RMC (300 * ((A.2 - A.1 : Nat) : Int)) σ → BTH ρB (300 * ((A.2 - A.1 : Nat) : Int)) (rV b x tA lev σ) σ (rw_ y)
/-- the items of a list -/
theorem pk_95 {rd : Prop} {b p n : Nat} {rm : Int} {S T ρ ρB : ST} {rF rV : Nat → Int32 → Int32 → Int32 → ST → Option ST} {rw_ : Int32 → ST → Option ST} (hP : PKC b p rm S T ρ ρB) (hV : VPK rd b p rm S T ρ ρB n rV rw_) {uA u lev : Int32} {d A1 A2 : Nat} {B : Nat × Nat} (hG : TG p rm S T d uA u) (h6 : (T.1 2 u.toNatClampNeg).toInt = 6) (hlev : 0 ≤ lev.toInt ∧ lev.toInt + 1 + n ≤ 32) (hA : (A2 : Int) ≤ (ρ.1 b 1).toInt ∧ (A2 : Int) ≤ (ρ.1 b 0).toInt) : ∀ (l : List EN) (f f' k : Nat) (x7 x8 x2 : Int32) (σ : ST), (∀ y, y ∈ l → (inA y = true ∧ A1 < y.2.1.1 ∧ y.2.1.2 ≤ A2) ∧ VAL rd b p S T ρ ρB n (S.1 16 uA.toNatClampNeg) (T.1 3 u.toNatClampNeg) y.2.1 y.2.2) → CN (ρ.1 (b + 9)) x7 (rA l) → CN (ρB.1 30) x2 (rB l) → x8.toInt = k → k + l.length ≤ 200 → KPK ρ σ → RMC (300 * (sumA l : Int)) σ → BTH ρB (300 * (sumA l : Int)) (f_X2_packValue_95 rF rV b f lev uA x7 x8 σ) σ (fun τ => f_X11_writes_155 rw_ f' x2 τ) := by
  have l0 := li_0
  have l1 := li_1
  have lm := li_m1
  have l200 : (200 : Int32).toInt = 200 := by decide
  intro l
  induction l with
  | nil =>
    intro f f' k x7 x8 x2 σ _ hcA hcB _ _ _ _
    have hcA : x7.toInt = -1 := hcA
    have hcB : x2.toInt = -1 := hcB
    cases f with
    | zero =>
      rw [f_X2_packValue_95]
      exact QT.none
    | succ f =>
      rw [f_X2_packValue_95]
      have e : ∀ τ, KWR ρB τ → QT (f_X11_writes_155 rw_ f' x2 τ) (fun t => t = τ) := fun τ _ => by
        cases f' with
        | zero =>
          rw [f_X11_writes_155]
          exact QT.none
        | succ f' =>
          rw [f_X11_writes_155]
          exact QT.ilt (fun _ => QT.ret rfl) (fun h => by omega)
      refine QT.ite (fun _ => BTH.rf (by show (0 : Int) ≤ 300 * ((0 : Nat) : Int); omega) e) (fun _ => ?_)
      exact QT.ieq (fun _ => BTH.rf (by show (0 : Int) ≤ 300 * ((0 : Nat) : Int); omega) e) (fun h => absurd (hcA.trans lm.symm) h)
  | cons z l ih =>
    intro f f' k x7 x8 x2 σ hl hcA hcB h8 hk hK hR
    obtain ⟨⟨hz1, hz2, hz3⟩, hzV⟩ := hl z List.mem_cons_self
    have hzlt := inA_lt hz1
    rw [rA_one hz1] at hcA
    obtain ⟨ca1, ca2⟩ := hcA
    obtain ⟨cb1, cb2⟩ := hcB
    have cb1 : x2.toInt = (z.2.2.1 : Int) := cb1
    have hlen : (z :: l).length = l.length + 1 := rfl
    have hsum : sumA (z :: l) = sumA l + (z.2.1.2 - z.2.1.1) := rfl
    cases f with
    | zero =>
      rw [f_X2_packValue_95]
      exact QT.none
    | succ f =>
      rw [f_X2_packValue_95]
      refine QT.ile (fun h => by omega) (fun _ => ?_)
      refine QT.ieq (fun h => by omega) (fun _ => ?_)
      rw [(hG.sE hP.2.1.2 (hP.kta hK)).2.1]
      rw [sbnd]
      dsimp only
      have e8 := il_addE (x := x8) (y := 1) (by omega) (by omega)
      have elev := il_addE (x := lev) (y := 1) (by omega) (by omega)
      obtain ⟨d', hG2⟩ := TG.ex (hG.2.2.2.1 h6)
      have h1 := hV _ _ z.2.1 z.2.2 d' x7 x2 (lev + 1) σ hG2 hzV ca1 cb1 ⟨by omega, by omega⟩ ⟨by omega, by omega⟩ hK (hR.le (by omega))
      have h2 := BTH.seq (k := 300 * (sumA (z :: l) : Int)) (k2 := 300 * (sumA l : Int)) (g := fun q1 => if 0 ≤ x2.toInt ∧ x2.toInt < 4096 then f_X11_writes_155 rw_ (f' - 1) (q1.1 30 x2.toNatClampNeg) q1 else none) (f := fun q3 => (f_X7_nextOf b x7 q3).bind fun q5 => f_X2_packValue_95 rF rV b f lev uA q5.1 (x8 + 1) q5.2) h1 (fun s hs hks => ?_) (by omega)
      · refine h2.stop (fun τ P hw hgo hst => ?_)
        cases f' with
        | zero =>
          rw [f_X11_writes_155]
          exact QT.none
        | succ f' =>
          rw [f_X11_writes_155]
          refine QT.ilt (fun h => by omega) (fun _ => ?_)
          exact QT.ite (fun h => hgo h) (fun h => QT.ret (hst h))
      · have hKs := hK.trans hks
        refine QT.bnd (q_nextRow ca1 (r := z.2.1.1) (by rw [hKs.row0 hP.1.1]; omega) (by rw [hKs.row0 hP.1.1]; omega)) (fun q hq => ?_)
        subst hq
        dsimp only
        have hn := hKs.row hP.1.1 (b := b) (k := 9) (by omega)
        rw [hn]
        have n2 : x2.toNatClampNeg = z.2.2.1 := nC cb1
        refine (ih f (f' - 1) (k + 1) _ (x8 + 1) (ρB.1 30 z.2.2.1) s (fun y hy => hl y (List.mem_cons_of_mem _ hy)) ca2 cb2 (by omega) (by omega) hKs (hR.to hs (by omega))).imp (fun τ P hw h => ?_)
        refine QT.grd (fun _ => ?_)
        rw [n2, hw.1 30 (by omega) (by omega)]
        exact h
/-- the fields of a record -/
theorem pk_10 {rd : Prop} {b p n : Nat} {rm : Int} {S T ρ ρB : ST} {rF rV : Nat → Int32 → Int32 → Int32 → ST → Option ST} {rw_ rwM : Int32 → ST → Option ST} (hP : PKC b p rm S T ρ ρB) (hKW : ∀ (s : ST) (x1 : Int32) (σ : ST), KWR s σ → PF st0 (KWR s) (rwM x1 σ)) (hrw : ∀ (x : Int32) (τ : ST) (P : ST → Prop), QT (f_X11_writes rwM x τ) P → QT (rw_ x τ) P) (hV : VPK rd b p rm S T ρ ρB n rV rw_) {xR lev : Int32} {R m A1 A2 x0 v0 : Nat} (hR : REC p rm S T R m) (hxR : xR.toInt = R) (hlev : 0 ≤ lev.toInt ∧ lev.toInt + 1 + n ≤ 32) (hA : (A2 : Int) ≤ (ρ.1 b 1).toInt ∧ (A2 : Int) ≤ (ρ.1 b 0).toInt) : ∀ (l : List EN) (f f' k : Nat) (x5 x6 x2 : Int32) (σ : ST), k + l.length = m → l.map (fun y => y.1) = List.range' k l.length → (∀ y, y ∈ l → (inA y = true → A1 < y.2.1.1 ∧ y.2.1.2 ≤ A2) ∧ (((inA y = true ∧ KID b ρ ρB x0 v0 y) ∧ VAL rd b p S T ρ ρB n (S.1 13 (8 * R + y.1)) (T.1 15 (8 * R + y.1)) y.2.1 y.2.2) ∨ inA y = false ∧ ELN T ρB v0 (8 * R + y.1) y)) → CN (ρ.1 (b + 9)) x5 (rA l) → CN (ρB.1 30) x2 (rB l) → x6.toInt = k → KPK ρ σ → RMC (300 * (sumA l : Int) + 32 * (l.length : Int)) σ → BTH ρB (300 * (sumA l : Int) + 32 * (l.length : Int)) (f_X2_packFields_10 rF rV b f xR lev x5 x6 σ) σ (fun τ => f_X11_writes_155 rw_ f' x2 τ) := by
  have l0 := li_0
  have l1 := li_1
  have lm := li_m1
  obtain ⟨hR36, ⟨hm1, hm2, hm8⟩, hELH, hFLH⟩ := id hR
  intro l
  induction l with
  | nil =>
    intro f f' k x5 x6 x2 σ hk _ _ _ hcB h6 hK _
    have hcB : x2.toInt = -1 := hcB
    have hk : k + 0 = m := hk
    cases f with
    | zero =>
      rw [f_X2_packFields_10]
      exact QT.none
    | succ f =>
      rw [f_X2_packFields_10]
      rw [a4_fieldsOf xR σ hxR hR36, (hP.kta hK).ty.1.2]
      rw [sbnd]
      dsimp only
      refine QT.ile (fun _ => BTH.rf (by show (0 : Int) ≤ 300 * ((0 : Nat) : Int) + 32 * ((0 : Nat) : Int); omega) (fun τ _ => ?_)) (fun h => by omega)
      cases f' with
      | zero =>
        rw [f_X11_writes_155]
        exact QT.none
      | succ f' =>
        rw [f_X11_writes_155]
        exact QT.ilt (fun _ => QT.ret rfl) (fun h => by omega)
  | cons z l ih =>
    intro f f' k x5 x6 x2 σ hk hmap hl hcA hcB h6 hK hRM
    have hlen : (z :: l).length = l.length + 1 := rfl
    rw [hlen, List.map_cons, List.range'_succ] at hmap
    have hzk : z.1 = k := (List.cons.inj hmap).1
    have hmap2 := (List.cons.inj hmap).2
    obtain ⟨hz1, hz2⟩ := hl z List.mem_cons_self
    rw [hzk] at hz2
    obtain ⟨cb1, cb2⟩ := hcB
    have cb1 : x2.toInt = (z.2.2.1 : Int) := cb1
    have n2 : x2.toNatClampNeg = z.2.2.1 := nC cb1
    have hkm : k < m := by omega
    have hl2 := fun y (hy : y ∈ l) => hl y (List.mem_cons_of_mem _ hy)
    have hsum : sumA (z :: l) = sumA l + (z.2.1.2 - z.2.1.1) := rfl
    have e6 := il_addE (x := x6) (y := 1) (by omega) (by omega)
    -- the reference's step
    have stepB : ∀ {kk : Int} {a : Option ST} (g : ∀ τ, KWR ρB τ → ∀ P : ST → Prop, QT (f_X11_writes_155 rw_ (f' - 1) (ρB.1 30 z.2.2.1) τ) P → QT (if 0 ≤ x2.toInt ∧ x2.toInt < 4096 then f_X11_writes_155 rw_ (f' - 1) (τ.1 30 x2.toNatClampNeg) τ else none) P) (h : BTH ρB kk a σ (fun τ => (rw_ x2 τ).bind fun q1 => if 0 ≤ x2.toInt ∧ x2.toInt < 4096 then f_X11_writes_155 rw_ (f' - 1) (q1.1 30 x2.toNatClampNeg) q1 else none)), BTH ρB kk a σ (fun τ => f_X11_writes_155 rw_ f' x2 τ) := fun _ h => h.stop (fun τ P hw hgo hst => by
      cases f' with
      | zero =>
        rw [f_X11_writes_155]
        exact QT.none
      | succ f' =>
        rw [f_X11_writes_155]
        refine QT.ilt (fun h => by omega) (fun _ => ?_)
        exact QT.ite (fun h => hgo h) (fun h => QT.ret (hst h)))
    have g155 : ∀ τ, KWR ρB τ → ∀ P : ST → Prop, QT (f_X11_writes_155 rw_ (f' - 1) (ρB.1 30 z.2.2.1) τ) P → QT (if 0 ≤ x2.toInt ∧ x2.toInt < 4096 then f_X11_writes_155 rw_ (f' - 1) (τ.1 30 x2.toNatClampNeg) τ else none) P := fun τ hw P h => by
      refine QT.grd (fun _ => ?_)
      rw [n2, hw.1 30 (by omega) (by omega)]
      exact h
    cases f with
    | zero =>
      rw [f_X2_packFields_10]
      exact QT.none
    | succ f =>
      rw [f_X2_packFields_10]
      rw [a4_fieldsOf xR σ hxR hR36, (hP.kta hK).ty.1.2]
      rw [sbnd]
      dsimp only
      refine QT.ile (fun h => by omega) (fun _ => ?_)
      rw [a4_typeOf xR x6 σ (r := R) (j := k) hxR h6 hR36 (by omega), (hP.kta hK).ty.2.1.1]
      rw [sbnd]
      dsimp only
      cases hin : inA z with
      | true =>
        have hz1 := hz1 hin
        have hzlt := inA_lt hin
        rw [rA_one hin] at hcA
        obtain ⟨ca1, ca2⟩ := hcA
        rcases hz2 with ⟨⟨_, hkid⟩, hval⟩ | ⟨hno, _⟩
        rotate_left
        · rw [hin] at hno
          cases hno
        have hr0 : (z.2.1.1 : Int) < (σ.1 b 1).toInt ∧ (z.2.1.1 : Int) < (σ.1 b 0).toInt := by
          rw [hK.row0 hP.1.1]
          omega
        refine QT.ieq (fun h => by omega) (fun _ => ?_)
        refine QT.bnd (q_placeOf ca1 hr0.1 hr0.2) (fun q hq => ?_)
        subst hq
        dsimp only
        have hpl : (σ.1 (b + 3) z.2.1.1).toInt = k := by
          rw [hK.row hP.1.1 (k := 3) (by omega), hkid.1.2]
          omega
        refine QT.ieq (fun _ => ?_) (fun h => by omega)
        have elev := il_addE (x := lev) (y := 1) (by omega) (by omega)
        obtain ⟨d', hG2⟩ := TG.ex (hFLH k hkm).2.2.1
        have h1 := hV _ _ z.2.1 z.2.2 d' x5 x2 (lev + 1) σ hG2 hval ca1 cb1 ⟨by omega, by omega⟩ ⟨by omega, by omega⟩ hK (hRM.le (by omega))
        refine stepB g155 (BTH.seq (k2 := 300 * (sumA l : Int) + 32 * (l.length : Int)) h1 (fun s hs hks => ?_) (by omega))
        have hKs := hK.trans hks
        refine QT.bnd (q_nextRow ca1 (by rw [hKs.row0 hP.1.1]; omega) (by rw [hKs.row0 hP.1.1]; omega)) (fun q hq => ?_)
        subst hq
        dsimp only
        have hn := hKs.row hP.1.1 (b := b) (k := 9) (by omega)
        rw [hn]
        unfold f_X2_packFields_85
        exact (ih f (f' - 1) (k + 1) _ (x6 + 1) (ρB.1 30 z.2.2.1) s (by omega) hmap2 hl2 ca2 cb2 (by omega) hKs (hRM.to hs (by omega))).imp (fun τ P hw h => g155 τ hw P h)
      | false =>
        rw [rA_none hin] at hcA
        rcases hz2 with ⟨⟨hno, _⟩, _⟩ | ⟨_, hel⟩
        · rw [hin] at hno
          cases hno
        have hzlt : z.2.1.2 - z.2.1.1 = 0 := by
          have : ¬ z.2.1.1 < z.2.1.2 := fun h => by
            have := decide_eq_true h
            have e9 : inA z = true := this
            rw [hin] at e9
            cases e9
          omega
        have els : BTH ρB (300 * (sumA (z :: l) : Int) + 32 * ((z :: l).length : Int)) (f_X2_packFields_76 rF rV (f_X2_packFields_10 rF rV b f) b xR lev x5 x6 (S.1 13 (8 * R + k)) σ) σ (fun τ => f_X11_writes_155 rw_ f' x2 τ) := by
          unfold f_X2_packFields_76
          have he := hel.2.1.1
          have hE := hR.elp hkm
          have h1 : BTH ρB 32 (f_X2_packElse xR x6 (S.1 13 (8 * R + k)) σ) σ (fun τ => f_X11_writes rwM x2 τ) := BTH.mk (qa_else xR x6 hxR h6 hR36 (by omega) hE he hP.2.1.2 (hP.kta hK) (hRM.le (by omega))) (wk_X2_packElse (s := σ) KPK.rf) (fun τ hw hp => by
            have e20 : τ.1 20 = ρB.1 20 := hw.1 20 (by omega) (by omega)
            have hel' : ELN T τ v0 (8 * R + k) z := by
              refine hel.ext (τ := ρB) (t := τ) ⟨⟨by rw [e20], by rw [hw.1 23 (by omega) (by omega)]⟩, fun c c1 c2 => by rw [hw.1 c (by omega) (by omega)], by rw [hw.2.2], by rw [hw.2.2]⟩ (by rw [hw.1 28 (by omega) (by omega)])
            exact pk_else xR x6 x2 hxR h6 hR36 (by omega) hE hP.2.1.2 (hP.kta hK) cb1 rfl hel' hp (hRM.le (by omega))) (fun τ => wk_X11_writes (s := τ) (hKW τ) KWR.rf)
          refine stepB g155 (BTH.seq (k2 := 300 * (sumA l : Int) + 32 * (l.length : Int)) (h1.imp (fun τ P _ h => hrw x2 τ P h)) (fun s hs hks => ?_) (by omega))
          unfold f_X2_packFields_85
          exact (ih f (f' - 1) (k + 1) x5 (x6 + 1) (ρB.1 30 z.2.2.1) s (by omega) hmap2 hl2 hcA cb2 (by omega) (hK.trans hks) (hRM.to hs (by omega))).imp (fun τ P hw h => g155 τ hw P h)
        refine QT.ieq (fun _ => els) (fun h9 => ?_)
        -- the next child is another field's
        have hne : ¬ rA l = [] := fun e => by
          rw [e] at hcA
          have hcA : x5.toInt = -1 := hcA
          exact h9 (hcA.trans lm.symm)
        cases hrl : rA l with
        | nil => exact absurd hrl hne
        | cons r rs =>
          rw [hrl] at hcA
          have hx5 : x5.toInt = (r : Int) := hcA.1
          have hrm : r ∈ rA l := by rw [hrl]; exact List.mem_cons_self
          obtain ⟨y, y1, y2, y3⟩ := mem_rA hrm
          have hy := hl2 y y1
          have hy1 := hy.1 y2
          have hylt := inA_lt y2
          have hyk : k < y.1 := by
            have : y.1 ∈ l.map (fun y => y.1) := List.mem_map.mpr ⟨y, y1, rfl⟩
            rw [hmap2] at this
            have := (List.mem_range'_1.mp this).1
            omega
          have hykid : KID b ρ ρB x0 v0 y := by
            rcases hy.2 with h8 | h8
            · exact h8.1.2
            · rw [y2] at h8
              cases h8.1
          have hr0 : (r : Int) < (σ.1 b 1).toInt ∧ (r : Int) < (σ.1 b 0).toInt := by
            rw [hK.row0 hP.1.1]
            omega
          refine QT.bnd (q_placeOf hx5 hr0.1 hr0.2) (fun q hq => ?_)
          subst hq
          dsimp only
          have hpl : (σ.1 (b + 3) r).toInt = y.1 := by
            rw [hK.row hP.1.1 (k := 3) (by omega), y3]
            exact hykid.1.2
          refine QT.ieq (fun h => by omega) (fun _ => ?_)
          rw [← hrl] at hcA
          exact els
/-- a value, behind its branch -/
theorem pk_39 {rd : Prop} {b p n : Nat} {rm : Int} {S T ρ ρB : ST} {N : Nat} {rw_ rwM : Int32 → ST → Option ST} (hP : PKC b p rm S T ρ ρB) (hKW : ∀ (s : ST) (x1 : Int32) (σ : ST), KWR s σ → PF st0 (KWR s) (rwM x1 σ)) (hKW2 : ∀ (s : ST) (x1 : Int32) (σ : ST), KWR s σ → PF st0 (KWR s) (rw_ x1 σ)) (hrw : ∀ (x : Int32) (τ : ST) (P : ST → Prop), QT (f_X11_writes rwM x τ) P → QT (rw_ x τ) P) (hV : ∀ N : Nat, VPK rd b p rm S T ρ ρB n (R_X2_packFields N).2 rw_) {tA tB uA u row y lev br : Int32} {d A1 A2 B1 B2 : Nat} (hG : TG p rm S T d uA u) (hVal : VAL rd b p S T ρ ρB (n + 1) tA tB (A1, A2) (B1, B2)) (hO : OWN S T tA tB br uA u) (hbr : ρB.1 26 B1 = br) (hrow : row.toInt = A1) (hy : y.toInt = B1) (hA : (A2 : Int) ≤ (ρ.1 b 1).toInt ∧ (A2 : Int) ≤ (ρ.1 b 0).toInt) (hlev : 0 ≤ lev.toInt ∧ lev.toInt + (n + 1 : Nat) ≤ 32) (σ : ST) (hK : KPK ρ σ) (hRM : RMC (300 * ((A2 - A1 : Nat) : Int) - 10) σ) (x5 : Int32) (h5 : x5 = ρB.1 20 B1) : BTH ρB (300 * ((A2 - A1 : Nat) : Int) - 10) (f_X2_packValue_39 (R_X2_packFields N).1 (R_X2_packFields N).2 b row lev x5 uA σ) σ (f_X11_writes_20 rw_ y) := by
  have l0 := li_0
  have l1 := li_1
  have l6 := li_6
  have l7 := li_7
  obtain ⟨⟨hA1, hB1⟩, uA', u', hO', ⟨⟨hs1, hs2⟩, hs3⟩, hleaf, hwor, hlist, hrec⟩ := hVal
  have hA1 : A1 < A2 := hA1
  have hs1 : T.1 2 u'.toNatClampNeg = ρB.1 20 B1 := hs1
  have hs3 : 0 ≤ (ρB.1 20 B1).toInt ∧ (ρB.1 20 B1).toInt ≤ 7 := hs3
  have hO' : OWN S T tA tB (ρB.1 26 B1) uA' u' := hO'
  -- one choice
  have eu : uA' = uA ∧ u' = u := by
    rw [hbr] at hO'
    rcases hO with ⟨a1, a2, a3, a4⟩ | ⟨a1, i, a2, _, a4, a5⟩
    · rcases hO' with ⟨b1, b2, b3, b4⟩ | ⟨b1, _⟩
      · exact ⟨b2.trans a2.symm, b3.trans a3.symm⟩
      · exact absurd b1 a4
    · rcases hO' with ⟨b1, b2, b3, b4⟩ | ⟨b1, j, b2, _, b4, b5⟩
      · exact absurd a1 b4
      · have : i = j := by omega
        subst this
        exact ⟨b4.trans a4.symm, b5.trans a5.symm⟩
  obtain ⟨rfl, rfl⟩ := eu
  have ny : y.toNatClampNeg = B1 := nC hy
  have hr0 : (A1 : Int) < (σ.1 b 1).toInt ∧ (A1 : Int) < (σ.1 b 0).toInt := by
    rw [hK.row0 hP.1.1]
    omega
  subst h5
  have w20 : ∀ τ, KWR ρB τ → τ.1 20 B1 = ρB.1 20 B1 := fun τ hw => by rw [hw.1 20 (by omega) (by omega)]
  have w28 : ∀ τ, KWR ρB τ → τ.1 28 B1 = ρB.1 28 B1 := fun τ hw => by rw [hw.1 28 (by omega) (by omega)]
  have w148 : ∀ (τ : ST) (P : ST → Prop), KWR ρB τ → QT (f_X11_writes_155 rw_ FU (ρB.1 28 B1) τ) P → QT (f_X11_writes_148 rw_ y τ) P := fun τ P hw h => by
    unfold f_X11_writes_148
    rw [ny, w28 τ hw]
    exact QT.grd (fun _ => h)
  unfold f_X2_packValue_39
  refine QT.ieq (fun e7 => ?_) (fun e7 => ?_)
  · -- a record
    have h7 : (ρB.1 20 B1).toInt = 7 := by omega
    have hT7 : (T.1 2 u'.toNatClampNeg).toInt = 7 := by rw [hs1]; exact h7
    rw [(hG.sE hP.2.1.2 (hP.kta hK)).2.1]
    rw [sbnd]
    dsimp only
    obtain ⟨R, m, l, ⟨r1, r2, r3⟩, hmap, _, hKd⟩ := hrec h7
    obtain ⟨⟨q1, q2⟩, q3⟩ := hG.2.2.2.2.1 hT7
    obtain ⟨m', hR⟩ := hP.2.2 (T.1 3 u'.toNatClampNeg).toInt.toNat (by omega)
    have eR : 6 * p + (T.1 3 u'.toNatClampNeg).toInt.toNat = R := by omega
    rw [eR] at hR
    have em : m' = m := by
      have := hR.2.1.2.1
      omega
    subst em
    have hsum : sumA l ≤ A2 - (A1 + 1) := sum_le hKd.2.1.1 (fun z hz => ⟨fun hi => by
      have : A1 < z.2.1.1 := ((hKd.2.2.2 z hz).2.1.1 hi).1
      omega, (hKd.2.2.2 z hz).2.1.2⟩)
    have hll : l.length = m' := by
      have := congrArg List.length hmap
      rw [List.length_map, List.length_range] at this
      exact this
    have hm8 := hR.2.1.2.2
    refine BTH.imp (b := fun τ => (f_X11_writes_155 rw_ FU (ρB.1 28 B1) τ).bind fun q => some q) ?_ (fun τ P hw h => ?_)
    · refine BTH.seq (k1 := 300 * ((A2 - A1 : Nat) : Int) - 10) (k2 := 0) (b := f_X11_writes_155 rw_ FU (ρB.1 28 B1)) (g := fun q => some q) ?_ (fun s _ _ => BTH.rf (Int.le_refl 0) (fun τ _ => QT.ret rfl)) (by omega)
      cases N with
      | zero => exact QT.none
      | succ N =>
        show BTH ρB _ (f_X2_packFields (R_X2_packFields N).1 (R_X2_packFields N).2 b row (S.1 16 uA'.toNatClampNeg) lev σ) σ _
        unfold f_X2_packFields
        refine QT.bnd (q_firstRow hrow hr0.1 hr0.2) (fun q hq => ?_)
        subst hq
        dsimp only
        rw [hK.row hP.1.1 (k := 7) (by omega)]
        refine (pk_10 hP hKW hrw (hV N) hR r2 ⟨hlev.1, by omega⟩ hA l FU FU 0 _ 0 (ρB.1 28 B1) σ (by omega) (by rw [hmap, hll, List.range_eq_range']) (fun z hz => ⟨fun hi => (hKd.2.2.2 z hz).2.1.1 hi, (hKd.2.2.2 z hz).2.2⟩) hKd.1.1.1 hKd.1.2.1 l0 hK (hRM.le (by omega))).le (by omega)
    · -- the reference's node
      unfold f_X11_writes_20
      rw [ny, w20 τ hw]
      refine QT.grd (fun _ => ?_)
      refine QT.ite (fun e => by rw [e] at h7; exact absurd h7 (by decide)) (fun _ => ?_)
      refine QT.ite (fun e => by rw [e] at h7; exact absurd h7 (by decide)) (fun _ => ?_)
      refine QT.ite (fun e => by rw [e] at h7; exact absurd h7 (by decide)) (fun _ => ?_)
      refine QT.ite (fun e => by rw [e] at h7; exact absurd h7 (by decide)) (fun _ => ?_)
      refine QT.ite (fun e => by rw [e] at h7; exact absurd h7 (by decide)) (fun _ => ?_)
      refine QT.ite (fun e => by rw [e] at h7; exact absurd h7 (by decide)) (fun _ => ?_)
      refine w148 τ P hw (fun t et => h t ?_)
      show (f_X11_writes_155 rw_ FU (ρB.1 28 B1) τ).bind _ = some t
      rw [et]
      rfl
  · refine QT.ieq (fun e6 => ?_) (fun e6 => ?_)
    · -- a list
      have h6 : (ρB.1 20 B1).toInt = 6 := by omega
      have hT6 : (T.1 2 u'.toNatClampNeg).toInt = 6 := by rw [hs1]; exact h6
      obtain ⟨l, l1', l2', l3', hKd⟩ := hlist h6
      have hsum : sumA l ≤ A2 - (A1 + 1) := sum_le hKd.2.1.1 (fun z hz => ⟨fun hi => by
        have : A1 < z.2.1.1 := ((hKd.2.2.2 z hz).2.1.1 hi).1
        omega, (hKd.2.2.2 z hz).2.1.2⟩)
      refine QT.bnd (q_sizeOf hrow hr0.1 hr0.2) (fun q hq => ?_)
      subst hq
      dsimp only
      have esz : σ.1 (b + 4) A1 = ρB.1 23 B1 := by
        rw [hK.row hP.1.1 (k := 4) (by omega)]
        refine Int32.toInt_inj.mp ?_
        have h9 : (ρB.1 23 B1).toInt = l.length := hKd.2.2.1.1
        rw [h9]
        exact l3'
      rw [esz]
      refine BTH.imp (b := fun τ => (f_X11_writesNumber ((ρB.1 23 B1).toInt64) τ).bind (f_X11_writes_155 rw_ FU (ρB.1 28 B1))) ?_ (fun τ P hw h => ?_)
      · refine BTH.seq (k1 := 10) (k2 := 300 * ((A2 - A1 : Nat) : Int) - 20) (BTH.num _ (hRM.le (by omega))) (fun s hs hks => ?_) (by omega)
        have hKs := hK.trans hks
        refine QT.bnd (q_firstRow hrow (by rw [hKs.row0 hP.1.1]; omega) (by rw [hKs.row0 hP.1.1]; omega)) (fun q hq => ?_)
        subst hq
        dsimp only
        rw [hKs.row hP.1.1 (k := 7) (by omega)]
        exact (pk_95 (B := (B1, B2)) hP (hV N) hG hT6 ⟨hlev.1, by omega⟩ hA l FU FU 0 _ 0 (ρB.1 28 B1) s (fun z hz => ⟨⟨(hKd.2.2.2 z hz).2.2.1.1, (hKd.2.2.2 z hz).2.1.1 (hKd.2.2.2 z hz).2.2.1.1⟩, (hKd.2.2.2 z hz).2.2.2⟩) hKd.1.1.1 hKd.1.2.1 l0 (by omega) hKs (hRM.to hs (by omega))).le (by omega)
      · unfold f_X11_writes_20
        rw [ny, w20 τ hw]
        refine QT.grd (fun _ => ?_)
        refine QT.ite (fun e => by rw [e] at h6; exact absurd h6 (by decide)) (fun _ => ?_)
        refine QT.ite (fun e => by rw [e] at h6; exact absurd h6 (by decide)) (fun _ => ?_)
        refine QT.ite (fun e => by rw [e] at h6; exact absurd h6 (by decide)) (fun _ => ?_)
        refine QT.ite (fun e => by rw [e] at h6; exact absurd h6 (by decide)) (fun _ => ?_)
        refine QT.ite (fun e => by rw [e] at h6; exact absurd h6 (by decide)) (fun _ => ?_)
        refine QT.ieq (fun _ => ?_) (fun h => by omega)
        rw [show τ.1 23 B1 = ρB.1 23 B1 by rw [hw.1 23 (by omega) (by omega)]]
        refine QT.bnd (Q := fun t => f_X11_writesNumber ((ρB.1 23 B1).toInt64) τ = some t) (fun t et => et) (fun t et => ?_)
        have hwt : KWR ρB t := hw.trans (wk_X11_writesNumber (s := τ) KWR.rf t et)
        refine w148 t P hwt (fun z ez => h z ?_)
        show (f_X11_writesNumber ((ρB.1 23 B1).toInt64) τ).bind _ = some z
        rw [et]
        exact ez
    · -- no others in it
      have h5 : (ρB.1 20 B1).toInt ≤ 5 := by omega
      obtain ⟨⟨⟨hl1, hl2⟩, hE, hn⟩, _⟩ := hleaf h5
      refine QT.bnd (q_worthOf hrow hr0.1 hr0.2) (fun q hq => ?_)
      subst hq
      dsimp only
      have ew : σ.2.1 (b + 6) A1 = ρ.2.1 (b + 6) A1 := by rw [hK.2.2]
      rw [ew]
      refine BTH.imp (b := fun τ => (f_X11_writes_20 rw_ y τ).bind fun q => some q) ?_ (fun τ P hw h t et => h t ?_)
      · refine BTH.seq (k1 := 22) (k2 := 0) (b := f_X11_writes_20 rw_ y) (g := fun q => some q) ?_ (fun s _ _ => BTH.rf (Int.le_refl 0) (fun τ _ => QT.ret rfl)) (by omega)
        have hR22 : RMC 22 σ := hRM.le (by omega)
        have hE : EWR (ρB.1 20 B1).toInt (ρ.2.1 (b + 6) A1) (ρB.2.1 21 B1) (ρB.2.1 22 B1) (ρB.1 23 B1) := hE
        refine BTH.mk (qa_plain _ _ _ _ _ σ hE hR22) (wk_X2_packPlain (s := σ) KPK.rf) (fun τ hw hp => ?_) (fun τ => wk_X11_writes_20 (s := τ) (hKW2 τ) KWR.rf)
        refine pk_own _ _ y σ τ hy (w20 τ hw) ?_ (by rw [w28 τ hw]; exact hl2) hp hR22
        rw [hw.2.2, show τ.1 23 B1 = ρB.1 23 B1 by rw [hw.1 23 (by omega) (by omega)]]
        exact hE
      · show (f_X11_writes_20 rw_ y τ).bind _ = some t
        rw [et]
        rfl
/-- a value -/
theorem pk_value {rd : Prop} {b p n : Nat} {rm : Int} {S T ρ ρB : ST} {N : Nat} {rw_ rwM : Int32 → ST → Option ST} (hP : PKC b p rm S T ρ ρB) (hKW : ∀ (s : ST) (x1 : Int32) (σ : ST), KWR s σ → PF st0 (KWR s) (rwM x1 σ)) (hKW2 : ∀ (s : ST) (x1 : Int32) (σ : ST), KWR s σ → PF st0 (KWR s) (rw_ x1 σ)) (hrw : ∀ (x : Int32) (τ : ST) (P : ST → Prop), QT (f_X11_writes rwM x τ) P → QT (rw_ x τ) P) (hV : ∀ N : Nat, VPK rd b p rm S T ρ ρB n (R_X2_packFields N).2 rw_) : VPK rd b p rm S T ρ ρB (n + 1) (f_X2_packValue (R_X2_packFields N).1 (R_X2_packFields N).2) (f_X11_writes rw_) := by
  have l0 := li_0
  have l8 : (8 : Int32).toInt = 8 := by decide
  have l31 : (31 : Int32).toInt = 31 := by decide
  intro tA tB A B d x y lev σ hG hVal hx hy hA hlev hK hRM
  obtain ⟨A1, A2⟩ := A
  obtain ⟨B1, B2⟩ := B
  have hx : x.toInt = (A1 : Int) := hx
  have hy : y.toInt = (B1 : Int) := hy
  have hA : (A2 : Int) ≤ (ρ.1 b 1).toInt ∧ (A2 : Int) ≤ (ρ.1 b 0).toInt := hA
  have hRM : RMC (300 * ((A2 - A1 : Nat) : Int)) σ := hRM
  obtain ⟨⟨hA1, _⟩, uA, u, hO, ⟨⟨hs1, hs2⟩, hs3⟩, _⟩ := id hVal
  have hA1 : A1 < A2 := hA1
  have hO : OWN S T tA tB (ρB.1 26 B1) uA u := hO
  have hs1 : T.1 2 u.toNatClampNeg = ρB.1 20 B1 := hs1
  have hs2 : ρ.1 (b + 1) A1 = ρB.1 20 B1 := hs2
  obtain ⟨d', hG'⟩ := hO.tg hG
  have ny : y.toNatClampNeg = B1 := nC hy
  have hr0 : (A1 : Int) < (σ.1 b 1).toInt ∧ (A1 : Int) < (σ.1 b 0).toInt := by
    rw [hK.row0 hP.1.1]
    omega
  show BTH ρB (300 * ((A2 - A1 : Nat) : Int)) _ σ _
  unfold f_X2_packValue
  refine QT.ile (fun _ => ?_) (fun h => by omega)
  refine QT.bnd (q_sortAt hx hr0.1 hr0.2) (fun q hq => ?_)
  subst hq
  dsimp only
  have es : σ.1 (b + 1) A1 = ρB.1 20 B1 := by
    rw [hK.row hP.1.1 (k := 1) (by omega)]
    exact hs2
  rw [es]
  rw [(hG.sE hP.2.1.2 (hP.kta hK)).1]
  rw [sbnd]
  dsimp only
  have w26 : ∀ τ, KWR ρB τ → τ.1 26 B1 = ρB.1 26 B1 := fun τ hw => by rw [hw.1 26 (by omega) (by omega)]
  refine QT.ieq (fun e8 => ?_) (fun e8 => ?_)
  · rcases id hO with ⟨_, _, _, h9⟩ | ⟨h8, k, hbk, hkm, ea, eb⟩
    · exact absurd (e8.trans l8) h9
    refine BTH.imp (b := fun τ => (f_X11_writesNumber ((ρB.1 26 B1).toInt64) τ).bind (f_X11_writes_20 rw_ y)) ?_ (fun τ P hw h => ?_)
    · unfold f_X2_packBranch
      rw [(hG.sE hP.2.1.2 (hP.kta hK)).2.1]
      rw [sbnd]
      dsimp only
      have h1 := BTH.seq (k1 := 10) (k2 := 300 * ((A2 - A1 : Nat) : Int) - 10) (k := 300 * ((A2 - A1 : Nat) : Int)) (f := fun q1 => f_X2_packValue_39 (R_X2_packFields N).1 (R_X2_packFields N).2 b x lev (ρB.1 20 B1) uA q1) (g := f_X11_writes_20 rw_ y) (BTH.num (ρB := ρB) ((ρB.1 26 B1).toInt64) (hRM.le (by omega))) (fun s hs hks => pk_39 hP hKW hKW2 hrw hV hG' hVal hO rfl hx hy hA hlev s (hK.trans hks) (hRM.to hs (by omega)) _ rfl) (by omega)
      -- the branch that the class finds is the one that was told
      intro s es9
      obtain ⟨q5, e5, e6⟩ := bnd_some es9
      refine h1 s ?_
      have hq5 : q5.1 = uA ∧ f_X2_putNumber ((ρB.1 26 B1).toInt64) σ = some q5.2 := by
        have := a_branch15 hG hP.2.1.2 (hP.kta hK) h8 (k := k) (s := ρB.1 20 B1) (K := ρB.1 26 B1) hkm hbk (by rw [← hs1, eb]) (P := fun q => q.1 = uA ∧ f_X2_putNumber ((ρB.1 26 B1).toInt64) σ = some q.2) ?_ FU 0 _ 0 0 (Nat.zero_le _) rfl l0 l0 q5 e5
        · exact this
        · unfold f_X2_packBranch_56
          exact QT.bnd (Q := fun t => f_X2_putNumber ((ρB.1 26 B1).toInt64) σ = some t) (fun t et => et) (fun t et => QT.ret ⟨ea.symm, et⟩)
      rw [hq5.1] at e6
      show (f_X2_putNumber ((ρB.1 26 B1).toInt64) σ).bind _ = some s
      rw [hq5.2]
      exact e6
    · unfold f_X11_writes
      rw [ny, w26 τ hw]
      refine QT.grd (fun _ => ?_)
      refine QT.ilt (fun h => by omega) (fun _ => ?_)
      exact h
  · rcases id hO with ⟨hb, e1, e2, h9⟩ | ⟨h8, _⟩
    rotate_left
    · exact absurd (h8.trans l8.symm) e8
    have h1 := pk_39 hP hKW hKW2 hrw hV (N := N) hG' hVal hO rfl hx hy hA hlev σ hK (hRM.le (by omega)) _ rfl
    rw [e1] at h1
    refine (h1.le (by omega)).imp (fun τ P hw h => ?_)
    unfold f_X11_writes
    rw [ny, w26 τ hw]
    refine QT.grd (fun _ => ?_)
    exact QT.ilt (fun _ => h) (fun h => by omega)
theorem VPK.none {rd : Prop} {b p n : Nat} {rm : Int} {S T ρ ρB : ST} {rV : Nat → Int32 → Int32 → Int32 → ST → Option ST} {rw_ rw' : Int32 → ST → Option ST} (h : VPK rd b p rm S T ρ ρB n rV rw_) (e : ∀ (x : Int32) (τ : ST) (P : ST → Prop), QT (rw_ x τ) P → QT (rw' x τ) P) : VPK rd b p rm S T ρ ρB n rV rw' := fun tA tB A B d x y lev σ h1 h2 h3 h4 h5 h6 h7 h8 => (h tA tB A B d x y lev σ h1 h2 h3 h4 h5 h6 h7 h8).imp (fun τ P _ k => e y τ P k)
theorem pk_RV {rd : Prop} {b p : Nat} {rm : Int} {S T ρ ρB : ST} (hP : PKC b p rm S T ρ ρB) : ∀ (n N M : Nat), VPK rd b p rm S T ρ ρB n (R_X2_packFields N).2 (R_X11_writes M) := by
  intro n
  have hw : ∀ (M : Nat) (s : ST) (x1 : Int32) (σ : ST), KWR s σ → PF st0 (KWR s) (R_X11_writes M x1 σ) := fun M s x1 σ h => wkR_X11_writes (s := s) M x1 σ h
  induction n with
  | zero =>
    intro N M tA tB A B d x y lev σ _ h
    exact h.elim
  | succ n ih =>
    intro N M
    cases N with
    | zero => exact fun tA tB A B d x y lev σ _ _ _ _ _ _ _ _ => QT.none
    | succ N =>
      have one : ∀ M : Nat, VPK rd b p rm S T ρ ρB (n + 1) (R_X2_packFields (N + 1)).2 (R_X11_writes (M + 1)) := fun M => by
        cases M with
        | zero => exact pk_value (rwM := R_X11_writes 0) hP (hw 0) (hw 0) (fun x τ P _ => QT.none) (fun N => ih N 0)
        | succ M => exact pk_value (rwM := R_X11_writes M) hP (hw M) (hw (M + 1)) (fun x τ P h => h) (fun N => ih N (M + 1))
      cases M with
      | zero => exact (one 0).none (fun x τ P _ => QT.none)
      | succ M => exact one M
