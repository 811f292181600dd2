/-! rows counted -/
def cv : List EN → Nat → Nat
  | [], _ => 0
  | y :: l, c => cv l c + (if y.2.1.1 ≤ c ∧ c < y.2.1.2 then 1 else 0)
/-- how many of the class's rows the children have -/
def sumA : List EN → Nat
  | [] => 0
  | y :: l => sumA l + (y.2.1.2 - y.2.1.1)
theorem sumA_app (l m : List EN) : sumA (l ++ m) = sumA l + sumA m := by
  induction l with
  | nil => show sumA m = 0 + sumA m; omega
  | cons y l ih =>
    show sumA (l ++ m) + _ = sumA l + _ + sumA m
    omega
theorem cv_zero : ∀ (l : List EN) (c : Nat), (∀ z, z ∈ l → ¬ (z.2.1.1 ≤ c ∧ c < z.2.1.2)) → cv l c = 0 := by
  intro l
  induction l with
  | nil => intro c _; rfl
  | cons y l ih =>
    intro c h
    show cv l c + (if y.2.1.1 ≤ c ∧ c < y.2.1.2 then 1 else 0) = 0
    rw [ih c (fun z hz => h z (List.mem_cons_of_mem _ hz)), if_neg (h y List.mem_cons_self)]
theorem cv_one : ∀ (l : List EN) (c : Nat), l.Pairwise SEPE → cv l c ≤ 1 := by
  intro l
  induction l with
  | nil => intro c _; exact Nat.zero_le _
  | cons y l ih =>
    intro c h
    obtain ⟨h1, h2⟩ := List.pairwise_cons.mp h
    show cv l c + (if y.2.1.1 ≤ c ∧ c < y.2.1.2 then 1 else 0) ≤ 1
    by_cases hy : y.2.1.1 ≤ c ∧ c < y.2.1.2
    · rw [if_pos hy, cv_zero l c (fun z hz => ?_)]
      · omega
      · have := (h1 z hz).1
        omega
    · rw [if_neg hy]
      exact ih c h2
theorem sm_ind (a b : Nat) : ∀ n : Nat, sm (fun c => if a ≤ c ∧ c < b then 1 else 0) n = (if n ≤ b then n else b) - a := by
  intro n
  induction n with
  | zero =>
    show 0 = _
    rw [if_pos (Nat.zero_le _)]
    omega
  | succ n ih =>
    rw [sm, ih]
    by_cases h1 : n + 1 ≤ b
    · rw [if_pos h1, if_pos (by omega)]
      by_cases h2 : a ≤ n
      · rw [if_pos ⟨h2, by omega⟩]
        omega
      · rw [if_neg (by omega)]
        omega
    · rw [if_neg h1]
      have e : (if a ≤ n ∧ n < b then 1 else 0 : Nat) = 0 := if_neg (by omega)
      by_cases h2 : n ≤ b
      · rw [if_pos h2, e]
        omega
      · rw [if_neg h2, e]
        omega
theorem sm_cv : ∀ (l : List EN) (n : Nat), (∀ z, z ∈ l → z.2.1.2 ≤ n) → sm (cv l) n = sumA l := by
  intro l
  induction l with
  | nil =>
    intro n _
    exact sm_zero n
  | cons y l ih =>
    intro n h
    have e : cv (y :: l) = fun c => cv l c + (if y.2.1.1 ≤ c ∧ c < y.2.1.2 then 1 else 0) := rfl
    rw [e, sm_add, ih n (fun z hz => h z (List.mem_cons_of_mem _ hz)), sm_ind]
    have hy := h y List.mem_cons_self
    show _ = sumA l + (y.2.1.2 - y.2.1.1)
    by_cases h1 : n ≤ y.2.1.2
    · rw [if_pos h1]
      omega
    · rw [if_neg h1]
theorem sum_le {l : List EN} {lo hi : Nat} (hp : l.Pairwise SEPE) (h : ∀ y, y ∈ l → (inA y = true → lo ≤ y.2.1.1) ∧ y.2.1.2 ≤ hi) : sumA l ≤ hi - lo := by
  rw [← sm_cv l hi (fun z hz => (h z hz).2)]
  have e : (if hi ≤ hi then hi else hi) - lo = hi - lo := by rw [if_pos (Nat.le_refl _)]
  rw [← e, ← sm_ind lo hi hi]
  refine sm_le (fun c => ?_) hi
  by_cases hc : lo ≤ c ∧ c < hi
  · rw [if_pos hc]
    exact cv_one l c hp
  · rw [if_neg hc, cv_zero l c (fun z hz hzc => ?_)]
    · exact Nat.le_refl _
    · have h1 := h z hz
      have h2 := h1.1 (decide_eq_true (by omega))
      omega
/-! a tree as bytes: both sides -/
theorem q_isRow (b : Nat) (x : Int32) (σ : ST) {r : Nat} (h : x.toInt = r) (h1 : (r : Int) < (σ.1 b 1).toInt) (h0 : (r : Int) < (σ.1 b 0).toInt) : QT (f_X7_isRow b x σ) (fun q => q.2 = σ ∧ q.1.toInt = 1) := (pt_isRow b x σ).mono (fun q hq => ⟨hq.1, by
  rcases hq.2 with h9 | h9
  · exact absurd ⟨by omega, by omega, by omega⟩ h9.2
  · exact h9.1⟩)
theorem q_sortAt {b : Nat} {x : Int32} {σ : ST} {r : Nat} (h : x.toInt = r) (h1 : (r : Int) < (σ.1 b 1).toInt) (h0 : (r : Int) < (σ.1 b 0).toInt) : QT (f_X7_sortAt b x σ) (fun q => q = (σ.1 (b + 1) r, σ)) := by
  have l0 := li_0
  have n := nC h
  unfold f_X7_sortAt
  rw [n]
  refine QT.bnd (q_isRow b x σ h h1 h0) (fun q hq => ?_)
  obtain ⟨w, s⟩ := q
  obtain ⟨e, hw⟩ := hq
  have e : s = σ := e
  subst e
  have hw : w.toInt = 1 := hw
  exact QT.ieq (fun h => by omega) (fun _ => QT.grd (fun _ => QT.ret rfl))
theorem q_sizeOf {b : Nat} {x : Int32} {σ : ST} {r : Nat} (h : x.toInt = r) (h1 : (r : Int) < (σ.1 b 1).toInt) (h0 : (r : Int) < (σ.1 b 0).toInt) : QT (f_X7_sizeOf b x σ) (fun q => q = (σ.1 (b + 4) r, σ)) := by
  have l0 := li_0
  have n := nC h
  unfold f_X7_sizeOf
  rw [n]
  refine QT.bnd (q_isRow b x σ h h1 h0) (fun q hq => ?_)
  obtain ⟨w, s⟩ := q
  obtain ⟨e, hw⟩ := hq
  have e : s = σ := e
  subst e
  have hw : w.toInt = 1 := hw
  exact QT.ieq (fun h => by omega) (fun _ => QT.grd (fun _ => QT.ret rfl))
theorem q_placeOf {b : Nat} {x : Int32} {σ : ST} {r : Nat} (h : x.toInt = r) (h1 : (r : Int) < (σ.1 b 1).toInt) (h0 : (r : Int) < (σ.1 b 0).toInt) : QT (f_X7_placeOf b x σ) (fun q => q = (σ.1 (b + 3) r, σ)) := by
  have l0 := li_0
  have n := nC h
  unfold f_X7_placeOf
  rw [n]
  refine QT.bnd (q_isRow b x σ h h1 h0) (fun q hq => ?_)
  obtain ⟨w, s⟩ := q
  obtain ⟨e, hw⟩ := hq
  have e : s = σ := e
  subst e
  have hw : w.toInt = 1 := hw
  exact QT.ieq (fun h => by omega) (fun _ => QT.grd (fun _ => QT.ret rfl))
theorem q_firstRow {b : Nat} {x : Int32} {σ : ST} {r : Nat} (h : x.toInt = r) (h1 : (r : Int) < (σ.1 b 1).toInt) (h0 : (r : Int) < (σ.1 b 0).toInt) : QT (f_X7_firstOf b x σ) (fun q => q = (σ.1 (b + 7) r, σ)) := by
  have l0 := li_0
  have n := nC h
  unfold f_X7_firstOf
  rw [n]
  refine QT.bnd (q_isRow b x σ h h1 h0) (fun q hq => ?_)
  obtain ⟨w, s⟩ := q
  obtain ⟨e, hw⟩ := hq
  have e : s = σ := e
  subst e
  have hw : w.toInt = 1 := hw
  exact QT.ieq (fun h => by omega) (fun _ => QT.grd (fun _ => QT.ret rfl))
theorem q_nextRow {b : Nat} {x : Int32} {σ : ST} {r : Nat} (h : x.toInt = r) (h1 : (r : Int) < (σ.1 b 1).toInt) (h0 : (r : Int) < (σ.1 b 0).toInt) : QT (f_X7_nextOf b x σ) (fun q => q = (σ.1 (b + 9) r, σ)) := by
  have l0 := li_0
  have n := nC h
  unfold f_X7_nextOf
  rw [n]
  refine QT.bnd (q_isRow b x σ h h1 h0) (fun q hq => ?_)
  obtain ⟨w, s⟩ := q
  obtain ⟨e, hw⟩ := hq
  have e : s = σ := e
  subst e
  have hw : w.toInt = 1 := hw
  exact QT.ieq (fun h => by omega) (fun _ => QT.grd (fun _ => QT.ret rfl))
theorem q_worthOf {b : Nat} {x : Int32} {σ : ST} {r : Nat} (h : x.toInt = r) (h1 : (r : Int) < (σ.1 b 1).toInt) (h0 : (r : Int) < (σ.1 b 0).toInt) : QT (f_X7_worthOf b x σ) (fun q => q = (σ.2.1 (b + 6) r, σ)) := by
  have l0 := li_0
  have n := nC h
  unfold f_X7_worthOf
  rw [n]
  refine QT.bnd (q_isRow b x σ h h1 h0) (fun q hq => ?_)
  obtain ⟨w, s⟩ := q
  obtain ⟨e, hw⟩ := hq
  have e : s = σ := e
  subst e
  have hw : w.toInt = 1 := hw
  exact QT.ieq (fun h => by omega) (fun _ => QT.grd (fun _ => QT.ret rfl))
/-- the class counts; what it counted, the reference writes -/
def BTH (ρB : ST) (k : Int) (a : Option ST) (σ : ST) (b : ST → Option ST) : Prop := QT a (fun s => (GRN k σ s ∧ KPK σ s) ∧ ∀ τ, KWR ρB τ → PKR σ τ → QT (b τ) (fun t => PKR s t ∧ KWR ρB t))
theorem BTH.mk {ρB : ST} {k : Int} {a : Option ST} {σ : ST} {b : ST → Option ST} (h1 : QT a (fun s => GRN k σ s)) (h2 : QT a (fun s => KPK σ s)) (h3 : ∀ τ, KWR ρB τ → PKR σ τ → QT a (fun s => QT (b τ) (fun t => PKR s t))) (h4 : ∀ τ, QT (b τ) (fun t => KWR τ t)) : BTH ρB k a σ b := fun s es => ⟨⟨h1 s es, h2 s es⟩, fun τ hw hk t et => ⟨h3 τ hw hk s es t et, hw.trans (h4 τ t et)⟩⟩
theorem BTH.seq {ρB : ST} {k1 k2 k : Int} {a : Option ST} {σ : ST} {b g : ST → Option ST} {f : ST → Option ST} (h : BTH ρB k1 a σ b) (hf : ∀ s, GRN k1 σ s → KPK σ s → BTH ρB k2 (f s) s g) (hk : k1 + k2 ≤ k) : BTH ρB k (a.bind f) σ (fun τ => (b τ).bind g) := by
  refine QT.bnd h (fun s hs => ?_)
  obtain ⟨⟨h1, h2⟩, h3⟩ := hs
  refine (hf s h1 h2).mono (fun u hu => ?_)
  obtain ⟨⟨k1, k2⟩, k3⟩ := hu
  exact ⟨⟨h1.trans k1 hk, h2.trans k2⟩, fun τ hw hp => QT.bnd (h3 τ hw hp) (fun t ht => k3 t ht.2 ht.1)⟩
theorem BTH.imp {ρB : ST} {k : Int} {a : Option ST} {σ : ST} {b b' : ST → Option ST} (h : BTH ρB k a σ b) (e : ∀ (τ : ST) (P : ST → Prop), KWR ρB τ → QT (b τ) P → QT (b' τ) P) : BTH ρB k a σ b' := QT.mono h (fun s hs => ⟨hs.1, fun τ hw hp => e τ _ hw (hs.2 τ hw hp)⟩)
theorem BTH.le {ρB : ST} {k k' : Int} {a : Option ST} {σ : ST} {b : ST → Option ST} (h : BTH ρB k a σ b) (e : k ≤ k') : BTH ρB k' a σ b := QT.mono h (fun s hs => ⟨⟨hs.1.1.mono e, hs.1.2⟩, hs.2⟩)
theorem BTH.rf {ρB σ : ST} {k : Int} (h : 0 ≤ k) {b : ST → Option ST} (e : ∀ τ, KWR ρB τ → QT (b τ) (fun t => t = τ)) : BTH ρB k (some σ) σ b := QT.ret ⟨⟨GRN.rf h, KPK.rf⟩, fun τ hw hp => (e τ hw).mono (fun t ht => by rw [ht]; exact ⟨hp, hw⟩)⟩
/-- the class goes on alone where the reference has no room left -/
theorem BTH.stop {ρB : ST} {k : Int} {a : Option ST} {σ : ST} {b b' : ST → Option ST} (h : BTH ρB k a σ b) (e : ∀ (τ : ST) (P : ST → Prop), KWR ρB τ → (τ.1 0 49 = 0 → QT (b τ) P) → (¬ τ.1 0 49 = 0 → P τ) → QT (b' τ) P) : BTH ρB k a σ b' := by
  refine QT.mono h (fun s hs => ⟨hs.1, fun τ hw hp => e τ _ hw (fun _ => hs.2 τ hw hp) (fun h9 => ⟨?_, hw⟩)⟩)
  refine ⟨hp.1, ?_⟩
  rcases hp.2 with h8 | h8
  · exact absurd h8.1 h9
  · have := hs.1.1.1
    exact .inr ⟨h8.1, h8.2.1, by omega⟩
theorem BTH.num {ρB σ : ST} (x : Int64) (hR : RMC 10 σ) : BTH ρB 10 (f_X2_putNumber x σ) σ (fun τ => f_X11_writesNumber x τ) := BTH.mk (qa_putNumber x σ hR) (wk_X2_putNumber (s := σ) KPK.rf) (fun τ _ hp => pk_putNumber x σ τ hp hR) (fun τ => wk_X11_writesNumber (s := τ) KWR.rf)
theorem RMC.le {σ : ST} {k j : Int} (h : RMC k σ) (e : j ≤ k) : RMC j σ := h.to (GRN.rf (k := 0) (by omega)) (by omega)
/-- all that packing rests on -/
def PKC (b p : Nat) (rm : Int) (S T ρ ρB : ST) : Prop := (b + 9 < 87 ∧ 20 ≤ b) ∧ (KTA S ρ ∧ (S.1 4 1).toInt ≤ 262) ∧ ∀ i : Nat, (i : Int) < rm → ∃ m, REC p rm S T (6 * p + i) m
theorem PKC.kta {b p : Nat} {rm : Int} {S T ρ ρB σ : ST} (h : PKC b p rm S T ρ ρB) (k : KPK ρ σ) : KTA S σ := h.2.1.1.trans k.kta
theorem CN.nil {nx : Nat → Int32} {x : Int32} {l : List Nat} (h : CN nx x l) (e : x.toInt = -1) : l = [] := by
  cases l with
  | nil => rfl
  | cons r l =>
    have := h.1
    omega
/-- rows of a tree, at σ as at ρ -/
theorem KPK.row {b : Nat} {ρ σ : ST} (h : KPK ρ σ) (hb : b + 9 < 87) {k : Nat} (hk : k ≤ 9) : σ.1 (b + k) = ρ.1 (b + k) := h.1 _ (by omega) (by omega)
theorem KPK.row0 {b : Nat} {ρ σ : ST} (h : KPK ρ σ) (hb : b + 9 < 87) : σ.1 b = ρ.1 b := h.1 _ (by omega) (by omega)
def VPK (rd : Prop) (b p : Nat) (rm : Int) (S T ρ ρB : ST) (n : Nat) (rV : Nat → Int32 → Int32 → Int32 → ST → Option ST) (rw_ : Int32 → ST → Option ST) : Prop := ∀ (tA tB : Int32) (A B : Nat × Nat) (d : Nat) (x y lev : Int32) (σ : ST), TG p rm S T d tA tB → VAL rd b p S T ρ ρB n tA tB A B → x.toInt = A.1 → y.toInt = B.1 → ((A.2 : Int) ≤ (ρ.1 b 1).toInt ∧ (A.2 : Int) ≤ (ρ.1 b 0).toInt) → (0 ≤ lev.toInt ∧ lev.toInt + n ≤ 32) → KPK ρ σ → RMC (300 * ((A.2 - A.1 : Nat) : Int)) σ → BTH ρB (300 * ((A.2 - A.1 : Nat) : Int)) (rV b x tA lev σ) σ (rw_ y)
/-- the items of a list -/
theorem pk_95 {rd : Prop} {b p n : Nat} {rm : Int} {S T ρ ρB : ST} {rF rV : Nat → Int32 → Int32 → Int32 → ST → Option ST} {rw_ : Int32 → ST → Option ST} (hP : PKC b p rm S T ρ ρB) (hV : VPK rd b p rm S T ρ ρB n rV rw_) {uA u lev : Int32} {d A1 A2 : Nat} {B : Nat × Nat} (hG : TG p rm S T d uA u) (h6 : (T.1 2 u.toNatClampNeg).toInt = 6) (hlev : 0 ≤ lev.toInt ∧ lev.toInt + 1 + n ≤ 32) (hA : (A2 : Int) ≤ (ρ.1 b 1).toInt ∧ (A2 : Int) ≤ (ρ.1 b 0).toInt) : ∀ (l : List EN) (f f' k : Nat) (x7 x8 x2 : Int32) (σ : ST), (∀ y, y ∈ l → (inA y = true ∧ A1 < y.2.1.1 ∧ y.2.1.2 ≤ A2) ∧ VAL rd b p S T ρ ρB n (S.1 16 uA.toNatClampNeg) (T.1 3 u.toNatClampNeg) y.2.1 y.2.2) → CN (ρ.1 (b + 9)) x7 (rA l) → CN (ρB.1 30) x2 (rB l) → x8.toInt = k → k + l.length ≤ 200 → KPK ρ σ → RMC (300 * (sumA l : Int)) σ → BTH ρB (300 * (sumA l : Int)) (f_X2_packValue_95 rF rV b f lev uA x7 x8 σ) σ (fun τ => f_X11_writes_155 rw_ f' x2 τ) := by
  have l0 := li_0
  have l1 := li_1
  have lm := li_m1
  have l200 : (200 : Int32).toInt = 200 := by decide
  intro l
  induction l with
  | nil =>
    intro f f' k x7 x8 x2 σ _ hcA hcB _ _ _ _
    have hcA : x7.toInt = -1 := hcA
    have hcB : x2.toInt = -1 := hcB
    cases f with
    | zero =>
      rw [f_X2_packValue_95]
      exact QT.none
    | succ f =>
      rw [f_X2_packValue_95]
      have e : ∀ τ, KWR ρB τ → QT (f_X11_writes_155 rw_ f' x2 τ) (fun t => t = τ) := fun τ _ => by
        cases f' with
        | zero =>
          rw [f_X11_writes_155]
          exact QT.none
        | succ f' =>
          rw [f_X11_writes_155]
          exact QT.ilt (fun _ => QT.ret rfl) (fun h => by omega)
      refine QT.ite (fun _ => BTH.rf (by show (0 : Int) ≤ 300 * ((0 : Nat) : Int); omega) e) (fun _ => ?_)
      exact QT.ieq (fun _ => BTH.rf (by show (0 : Int) ≤ 300 * ((0 : Nat) : Int); omega) e) (fun h => absurd (hcA.trans lm.symm) h)
  | cons z l ih =>
    intro f f' k x7 x8 x2 σ hl hcA hcB h8 hk hK hR
    obtain ⟨⟨hz1, hz2, hz3⟩, hzV⟩ := hl z List.mem_cons_self
    have hzlt := inA_lt hz1
    rw [rA_one hz1] at hcA
    obtain ⟨ca1, ca2⟩ := hcA
    obtain ⟨cb1, cb2⟩ := hcB
    have cb1 : x2.toInt = (z.2.2.1 : Int) := cb1
    have hlen : (z :: l).length = l.length + 1 := rfl
    have hsum : sumA (z :: l) = sumA l + (z.2.1.2 - z.2.1.1) := rfl
    cases f with
    | zero =>
      rw [f_X2_packValue_95]
      exact QT.none
    | succ f =>
      rw [f_X2_packValue_95]
      refine QT.ile (fun h => by omega) (fun _ => ?_)
      refine QT.ieq (fun h => by omega) (fun _ => ?_)
      rw [(hG.sE hP.2.1.2 (hP.kta hK)).2.1]
      rw [sbnd]
      dsimp only
      have e8 := il_addE (x := x8) (y := 1) (by omega) (by omega)
      have elev := il_addE (x := lev) (y := 1) (by omega) (by omega)
      obtain ⟨d', hG2⟩ := TG.ex (hG.2.2.2.1 h6)
      have h1 := hV _ _ z.2.1 z.2.2 d' x7 x2 (lev + 1) σ hG2 hzV ca1 cb1 ⟨by omega, by omega⟩ ⟨by omega, by omega⟩ hK (hR.le (by omega))
      have h2 := BTH.seq (k := 300 * (sumA (z :: l) : Int)) (k2 := 300 * (sumA l : Int)) (g := fun q1 => if 0 ≤ x2.toInt ∧ x2.toInt < 4096 then f_X11_writes_155 rw_ (f' - 1) (q1.1 30 x2.toNatClampNeg) q1 else none) (f := fun q3 => (f_X7_nextOf b x7 q3).bind fun q5 => f_X2_packValue_95 rF rV b f lev uA q5.1 (x8 + 1) q5.2) h1 (fun s hs hks => ?_) (by omega)
      · refine h2.stop (fun τ P hw hgo hst => ?_)
        cases f' with
        | zero =>
          rw [f_X11_writes_155]
          exact QT.none
        | succ f' =>
          rw [f_X11_writes_155]
          refine QT.ilt (fun h => by omega) (fun _ => ?_)
          exact QT.ite (fun h => hgo h) (fun h => QT.ret (hst h))
      · have hKs := hK.trans hks
        refine QT.bnd (q_nextRow ca1 (r := z.2.1.1) (by rw [hKs.row0 hP.1.1]; omega) (by rw [hKs.row0 hP.1.1]; omega)) (fun q hq => ?_)
        subst hq
        dsimp only
        have hn := hKs.row hP.1.1 (b := b) (k := 9) (by omega)
        rw [hn]
        have n2 : x2.toNatClampNeg = z.2.2.1 := nC cb1
        refine (ih f (f' - 1) (k + 1) _ (x8 + 1) (ρB.1 30 z.2.2.1) s (fun y hy => hl y (List.mem_cons_of_mem _ hy)) ca2 cb2 (by omega) (by omega) hKs (hR.to hs (by omega))).imp (fun τ P hw h => ?_)
        refine QT.grd (fun _ => ?_)
        rw [n2, hw.1 30 (by omega) (by omega)]
        exact h
/-- the fields of a record -/
theorem pk_10 {rd : Prop} {b p n : Nat} {rm : Int} {S T ρ ρB : ST} {rF rV : Nat → Int32 → Int32 → Int32 → ST → Option ST} {rw_ rwM : Int32 → ST → Option ST} (hP : PKC b p rm S T ρ ρB) (hKW : ∀ (s : ST) (x1 : Int32) (σ : ST), KWR s σ → PF st0 (KWR s) (rwM x1 σ)) (hrw : ∀ (x : Int32) (τ : ST) (P : ST → Prop), QT (f_X11_writes rwM x τ) P → QT (rw_ x τ) P) (hV : VPK rd b p rm S T ρ ρB n rV rw_) {xR lev : Int32} {R m A1 A2 x0 v0 : Nat} (hR : REC p rm S T R m) (hxR : xR.toInt = R) (hlev : 0 ≤ lev.toInt ∧ lev.toInt + 1 + n ≤ 32) (hA : (A2 : Int) ≤ (ρ.1 b 1).toInt ∧ (A2 : Int) ≤ (ρ.1 b 0).toInt) : ∀ (l : List EN) (f f' k : Nat) (x5 x6 x2 : Int32) (σ : ST), k + l.length = m → l.map (fun y => y.1) = List.range' k l.length → (∀ y, y ∈ l → (inA y = true → A1 < y.2.1.1 ∧ y.2.1.2 ≤ A2) ∧ (((inA y = true ∧ KID b ρ ρB x0 v0 y) ∧ VAL rd b p S T ρ ρB n (S.1 13 (8 * R + y.1)) (T.1 15 (8 * R + y.1)) y.2.1 y.2.2) ∨ inA y = false ∧ ELN T ρB v0 (8 * R + y.1) y)) → CN (ρ.1 (b + 9)) x5 (rA l) → CN (ρB.1 30) x2 (rB l) → x6.toInt = k → KPK ρ σ → RMC (300 * (sumA l : Int) + 32 * (l.length : Int)) σ → BTH ρB (300 * (sumA l : Int) + 32 * (l.length : Int)) (f_X2_packFields_10 rF rV b f xR lev x5 x6 σ) σ (fun τ => f_X11_writes_155 rw_ f' x2 τ) := by
  have l0 := li_0
  have l1 := li_1
  have lm := li_m1
  obtain ⟨hR36, ⟨hm1, hm2, hm8⟩, hELH, hFLH⟩ := id hR
  intro l
  induction l with
  | nil =>
    intro f f' k x5 x6 x2 σ hk _ _ _ hcB h6 hK _
    have hcB : x2.toInt = -1 := hcB
    have hk : k + 0 = m := hk
    cases f with
    | zero =>
      rw [f_X2_packFields_10]
      exact QT.none
    | succ f =>
      rw [f_X2_packFields_10]
      rw [a4_fieldsOf xR σ hxR hR36, (hP.kta hK).ty.1.2]
      rw [sbnd]
      dsimp only
      refine QT.ile (fun _ => BTH.rf (by show (0 : Int) ≤ 300 * ((0 : Nat) : Int) + 32 * ((0 : Nat) : Int); omega) (fun τ _ => ?_)) (fun h => by omega)
      cases f' with
      | zero =>
        rw [f_X11_writes_155]
        exact QT.none
      | succ f' =>
        rw [f_X11_writes_155]
        exact QT.ilt (fun _ => QT.ret rfl) (fun h => by omega)
  | cons z l ih =>
    intro f f' k x5 x6 x2 σ hk hmap hl hcA hcB h6 hK hRM
    have hlen : (z :: l).length = l.length + 1 := rfl
    rw [hlen, List.map_cons, List.range'_succ] at hmap
    have hzk : z.1 = k := (List.cons.inj hmap).1
    have hmap2 := (List.cons.inj hmap).2
    obtain ⟨hz1, hz2⟩ := hl z List.mem_cons_self
    rw [hzk] at hz2
    obtain ⟨cb1, cb2⟩ := hcB
    have cb1 : x2.toInt = (z.2.2.1 : Int) := cb1
    have n2 : x2.toNatClampNeg = z.2.2.1 := nC cb1
    have hkm : k < m := by omega
    have hl2 := fun y (hy : y ∈ l) => hl y (List.mem_cons_of_mem _ hy)
    have hsum : sumA (z :: l) = sumA l + (z.2.1.2 - z.2.1.1) := rfl
    have e6 := il_addE (x := x6) (y := 1) (by omega) (by omega)
    -- the reference's step
    have stepB : ∀ {kk : Int} {a : Option ST} (g : ∀ τ, KWR ρB τ → ∀ P : ST → Prop, QT (f_X11_writes_155 rw_ (f' - 1) (ρB.1 30 z.2.2.1) τ) P → QT (if 0 ≤ x2.toInt ∧ x2.toInt < 4096 then f_X11_writes_155 rw_ (f' - 1) (τ.1 30 x2.toNatClampNeg) τ else none) P) (h : BTH ρB kk a σ (fun τ => (rw_ x2 τ).bind fun q1 => if 0 ≤ x2.toInt ∧ x2.toInt < 4096 then f_X11_writes_155 rw_ (f' - 1) (q1.1 30 x2.toNatClampNeg) q1 else none)), BTH ρB kk a σ (fun τ => f_X11_writes_155 rw_ f' x2 τ) := fun _ h => h.stop (fun τ P hw hgo hst => by
      cases f' with
      | zero =>
        rw [f_X11_writes_155]
        exact QT.none
      | succ f' =>
        rw [f_X11_writes_155]
        refine QT.ilt (fun h => by omega) (fun _ => ?_)
        exact QT.ite (fun h => hgo h) (fun h => QT.ret (hst h)))
    have g155 : ∀ τ, KWR ρB τ → ∀ P : ST → Prop, QT (f_X11_writes_155 rw_ (f' - 1) (ρB.1 30 z.2.2.1) τ) P → QT (if 0 ≤ x2.toInt ∧ x2.toInt < 4096 then f_X11_writes_155 rw_ (f' - 1) (τ.1 30 x2.toNatClampNeg) τ else none) P := fun τ hw P h => by
      refine QT.grd (fun _ => ?_)
      rw [n2, hw.1 30 (by omega) (by omega)]
      exact h
    cases f with
    | zero =>
      rw [f_X2_packFields_10]
      exact QT.none
    | succ f =>
      rw [f_X2_packFields_10]
      rw [a4_fieldsOf xR σ hxR hR36, (hP.kta hK).ty.1.2]
      rw [sbnd]
      dsimp only
      refine QT.ile (fun h => by omega) (fun _ => ?_)
      rw [a4_typeOf xR x6 σ (r := R) (j := k) hxR h6 hR36 (by omega), (hP.kta hK).ty.2.1.1]
      rw [sbnd]
      dsimp only
      cases hin : inA z with
      | true =>
        have hz1 := hz1 hin
        have hzlt := inA_lt hin
        rw [rA_one hin] at hcA
        obtain ⟨ca1, ca2⟩ := hcA
        rcases hz2 with ⟨⟨_, hkid⟩, hval⟩ | ⟨hno, _⟩
        rotate_left
        · rw [hin] at hno
          cases hno
        have hr0 : (z.2.1.1 : Int) < (σ.1 b 1).toInt ∧ (z.2.1.1 : Int) < (σ.1 b 0).toInt := by
          rw [hK.row0 hP.1.1]
          omega
        refine QT.ieq (fun h => by omega) (fun _ => ?_)
        refine QT.bnd (q_placeOf ca1 hr0.1 hr0.2) (fun q hq => ?_)
        subst hq
        dsimp only
        have hpl : (σ.1 (b + 3) z.2.1.1).toInt = k := by
          rw [hK.row hP.1.1 (k := 3) (by omega), hkid.1.2]
          omega
        refine QT.ieq (fun _ => ?_) (fun h => by omega)
        have elev := il_addE (x := lev) (y := 1) (by omega) (by omega)
        obtain ⟨d', hG2⟩ := TG.ex (hFLH k hkm).2.2.1
        have h1 := hV _ _ z.2.1 z.2.2 d' x5 x2 (lev + 1) σ hG2 hval ca1 cb1 ⟨by omega, by omega⟩ ⟨by omega, by omega⟩ hK (hRM.le (by omega))
        refine stepB g155 (BTH.seq (k2 := 300 * (sumA l : Int) + 32 * (l.length : Int)) h1 (fun s hs hks => ?_) (by omega))
        have hKs := hK.trans hks
        refine QT.bnd (q_nextRow ca1 (by rw [hKs.row0 hP.1.1]; omega) (by rw [hKs.row0 hP.1.1]; omega)) (fun q hq => ?_)
        subst hq
        dsimp only
        have hn := hKs.row hP.1.1 (b := b) (k := 9) (by omega)
        rw [hn]
        unfold f_X2_packFields_85
        exact (ih f (f' - 1) (k + 1) _ (x6 + 1) (ρB.1 30 z.2.2.1) s (by omega) hmap2 hl2 ca2 cb2 (by omega) hKs (hRM.to hs (by omega))).imp (fun τ P hw h => g155 τ hw P h)
      | false =>
        rw [rA_none hin] at hcA
        rcases hz2 with ⟨⟨hno, _⟩, _⟩ | ⟨_, hel⟩
        · rw [hin] at hno
          cases hno
        have hzlt : z.2.1.2 - z.2.1.1 = 0 := by
          have : ¬ z.2.1.1 < z.2.1.2 := fun h => by
            have := decide_eq_true h
            have e9 : inA z = true := this
            rw [hin] at e9
            cases e9
          omega
        have els : BTH ρB (300 * (sumA (z :: l) : Int) + 32 * ((z :: l).length : Int)) (f_X2_packFields_76 rF rV (f_X2_packFields_10 rF rV b f) b xR lev x5 x6 (S.1 13 (8 * R + k)) σ) σ (fun τ => f_X11_writes_155 rw_ f' x2 τ) := by
          unfold f_X2_packFields_76
          have he := hel.2.1.1
          have hE := hR.elp hkm
          have h1 : BTH ρB 32 (f_X2_packElse xR x6 (S.1 13 (8 * R + k)) σ) σ (fun τ => f_X11_writes rwM x2 τ) := BTH.mk (qa_else xR x6 hxR h6 hR36 (by omega) hE he hP.2.1.2 (hP.kta hK) (hRM.le (by omega))) (wk_X2_packElse (s := σ) KPK.rf) (fun τ hw hp => by
            have e20 : τ.1 20 = ρB.1 20 := hw.1 20 (by omega) (by omega)
            have hel' : ELN T τ v0 (8 * R + k) z := by
              refine hel.ext (τ := ρB) (t := τ) ⟨⟨by rw [e20], by rw [hw.1 23 (by omega) (by omega)]⟩, fun c c1 c2 => by rw [hw.1 c (by omega) (by omega)], by rw [hw.2.2], by rw [hw.2.2]⟩ (by rw [hw.1 28 (by omega) (by omega)])
            exact pk_else xR x6 x2 hxR h6 hR36 (by omega) hE hP.2.1.2 (hP.kta hK) cb1 rfl hel' hp (hRM.le (by omega))) (fun τ => wk_X11_writes (s := τ) (hKW τ) KWR.rf)
          refine stepB g155 (BTH.seq (k2 := 300 * (sumA l : Int) + 32 * (l.length : Int)) (h1.imp (fun τ P _ h => hrw x2 τ P h)) (fun s hs hks => ?_) (by omega))
          unfold f_X2_packFields_85
          exact (ih f (f' - 1) (k + 1) x5 (x6 + 1) (ρB.1 30 z.2.2.1) s (by omega) hmap2 hl2 hcA cb2 (by omega) (hK.trans hks) (hRM.to hs (by omega))).imp (fun τ P hw h => g155 τ hw P h)
        refine QT.ieq (fun _ => els) (fun h9 => ?_)
        -- the next child is another field's
        have hne : ¬ rA l = [] := fun e => by
          rw [e] at hcA
          have hcA : x5.toInt = -1 := hcA
          exact h9 (hcA.trans lm.symm)
        cases hrl : rA l with
        | nil => exact absurd hrl hne
        | cons r rs =>
          rw [hrl] at hcA
          have hx5 : x5.toInt = (r : Int) := hcA.1
          have hrm : r ∈ rA l := by rw [hrl]; exact List.mem_cons_self
          obtain ⟨y, y1, y2, y3⟩ := mem_rA hrm
          have hy := hl2 y y1
          have hy1 := hy.1 y2
          have hylt := inA_lt y2
          have hyk : k < y.1 := by
            have : y.1 ∈ l.map (fun y => y.1) := List.mem_map.mpr ⟨y, y1, rfl⟩
            rw [hmap2] at this
            have := (List.mem_range'_1.mp this).1
            omega
          have hykid : KID b ρ ρB x0 v0 y := by
            rcases hy.2 with h8 | h8
            · exact h8.1.2
            · rw [y2] at h8
              cases h8.1
          have hr0 : (r : Int) < (σ.1 b 1).toInt ∧ (r : Int) < (σ.1 b 0).toInt := by
            rw [hK.row0 hP.1.1]
            omega
          refine QT.bnd (q_placeOf hx5 hr0.1 hr0.2) (fun q hq => ?_)
          subst hq
          dsimp only
          have hpl : (σ.1 (b + 3) r).toInt = y.1 := by
            rw [hK.row hP.1.1 (k := 3) (by omega), y3]
            exact hykid.1.2
          refine QT.ieq (fun h => by omega) (fun _ => ?_)
          rw [← hrl] at hcA
          exact els
/-- a value, behind its branch -/
theorem pk_39 {rd : Prop} {b p n : Nat} {rm : Int} {S T ρ ρB : ST} {N : Nat} {rw_ rwM : Int32 → ST → Option ST} (hP : PKC b p rm S T ρ ρB) (hKW : ∀ (s : ST) (x1 : Int32) (σ : ST), KWR s σ → PF st0 (KWR s) (rwM x1 σ)) (hKW2 : ∀ (s : ST) (x1 : Int32) (σ : ST), KWR s σ → PF st0 (KWR s) (rw_ x1 σ)) (hrw : ∀ (x : Int32) (τ : ST) (P : ST → Prop), QT (f_X11_writes rwM x τ) P → QT (rw_ x τ) P) (hV : ∀ N : Nat, VPK rd b p rm S T ρ ρB n (R_X2_packFields N).2 rw_) {tA tB uA u row y lev br : Int32} {d A1 A2 B1 B2 : Nat} (hG : TG p rm S T d uA u) (hVal : VAL rd b p S T ρ ρB (n + 1) tA tB (A1, A2) (B1, B2)) (hO : OWN S T tA tB br uA u) (hbr : ρB.1 26 B1 = br) (hrow : row.toInt = A1) (hy : y.toInt = B1) (hA : (A2 : Int) ≤ (ρ.1 b 1).toInt ∧ (A2 : Int) ≤ (ρ.1 b 0).toInt) (hlev : 0 ≤ lev.toInt ∧ lev.toInt + (n + 1 : Nat) ≤ 32) (σ : ST) (hK : KPK ρ σ) (hRM : RMC (300 * ((A2 - A1 : Nat) : Int) - 10) σ) (x5 : Int32) (h5 : x5 = ρB.1 20 B1) : BTH ρB (300 * ((A2 - A1 : Nat) : Int) - 10) (f_X2_packValue_39 (R_X2_packFields N).1 (R_X2_packFields N).2 b row lev x5 uA σ) σ (f_X11_writes_20 rw_ y) := by
  have l0 := li_0
  have l1 := li_1
  have l6 := li_6
  have l7 := li_7
  obtain ⟨⟨hA1, hB1⟩, uA', u', hO', ⟨⟨hs1, hs2⟩, hs3⟩, hleaf, hwor, hlist, hrec⟩ := hVal
  have hA1 : A1 < A2 := hA1
  have hs1 : T.1 2 u'.toNatClampNeg = ρB.1 20 B1 := hs1
  have hs3 : 0 ≤ (ρB.1 20 B1).toInt ∧ (ρB.1 20 B1).toInt ≤ 7 := hs3
  have hO' : OWN S T tA tB (ρB.1 26 B1) uA' u' := hO'
  -- one choice
  have eu : uA' = uA ∧ u' = u := by
    rw [hbr] at hO'
    rcases hO with ⟨a1, a2, a3, a4⟩ | ⟨a1, i, a2, _, a4, a5⟩
    · rcases hO' with ⟨b1, b2, b3, b4⟩ | ⟨b1, _⟩
      · exact ⟨b2.trans a2.symm, b3.trans a3.symm⟩
      · exact absurd b1 a4
    · rcases hO' with ⟨b1, b2, b3, b4⟩ | ⟨b1, j, b2, _, b4, b5⟩
      · exact absurd a1 b4
      · have : i = j := by omega
        subst this
        exact ⟨b4.trans a4.symm, b5.trans a5.symm⟩
  obtain ⟨rfl, rfl⟩ := eu
  have ny : y.toNatClampNeg = B1 := nC hy
  have hr0 : (A1 : Int) < (σ.1 b 1).toInt ∧ (A1 : Int) < (σ.1 b 0).toInt := by
    rw [hK.row0 hP.1.1]
    omega
  subst h5
  have w20 : ∀ τ, KWR ρB τ → τ.1 20 B1 = ρB.1 20 B1 := fun τ hw => by rw [hw.1 20 (by omega) (by omega)]
  have w28 : ∀ τ, KWR ρB τ → τ.1 28 B1 = ρB.1 28 B1 := fun τ hw => by rw [hw.1 28 (by omega) (by omega)]
  have w148 : ∀ (τ : ST) (P : ST → Prop), KWR ρB τ → QT (f_X11_writes_155 rw_ FU (ρB.1 28 B1) τ) P → QT (f_X11_writes_148 rw_ y τ) P := fun τ P hw h => by
    unfold f_X11_writes_148
    rw [ny, w28 τ hw]
    exact QT.grd (fun _ => h)
  unfold f_X2_packValue_39
  refine QT.ieq (fun e7 => ?_) (fun e7 => ?_)
  · -- a record
    have h7 : (ρB.1 20 B1).toInt = 7 := by omega
    have hT7 : (T.1 2 u'.toNatClampNeg).toInt = 7 := by rw [hs1]; exact h7
    rw [(hG.sE hP.2.1.2 (hP.kta hK)).2.1]
    rw [sbnd]
    dsimp only
    obtain ⟨R, m, l, ⟨r1, r2, r3⟩, hmap, _, hKd⟩ := hrec h7
    obtain ⟨⟨q1, q2⟩, q3⟩ := hG.2.2.2.2.1 hT7
    obtain ⟨m', hR⟩ := hP.2.2 (T.1 3 u'.toNatClampNeg).toInt.toNat (by omega)
    have eR : 6 * p + (T.1 3 u'.toNatClampNeg).toInt.toNat = R := by omega
    rw [eR] at hR
    have em : m' = m := by
      have := hR.2.1.2.1
      omega
    subst em
    have hsum : sumA l ≤ A2 - (A1 + 1) := sum_le hKd.2.1.1 (fun z hz => ⟨fun hi => by
      have : A1 < z.2.1.1 := ((hKd.2.2.2 z hz).2.1.1 hi).1
      omega, (hKd.2.2.2 z hz).2.1.2⟩)
    have hll : l.length = m' := by
      have := congrArg List.length hmap
      rw [List.length_map, List.length_range] at this
      exact this
    have hm8 := hR.2.1.2.2
    refine BTH.imp (b := fun τ => (f_X11_writes_155 rw_ FU (ρB.1 28 B1) τ).bind fun q => some q) ?_ (fun τ P hw h => ?_)
    · refine BTH.seq (k1 := 300 * ((A2 - A1 : Nat) : Int) - 10) (k2 := 0) (b := f_X11_writes_155 rw_ FU (ρB.1 28 B1)) (g := fun q => some q) ?_ (fun s _ _ => BTH.rf (Int.le_refl 0) (fun τ _ => QT.ret rfl)) (by omega)
      cases N with
      | zero => exact QT.none
      | succ N =>
        show BTH ρB _ (f_X2_packFields (R_X2_packFields N).1 (R_X2_packFields N).2 b row (S.1 16 uA'.toNatClampNeg) lev σ) σ _
        unfold f_X2_packFields
        refine QT.bnd (q_firstRow hrow hr0.1 hr0.2) (fun q hq => ?_)
        subst hq
        dsimp only
        rw [hK.row hP.1.1 (k := 7) (by omega)]
        refine (pk_10 hP hKW hrw (hV N) hR r2 ⟨hlev.1, by omega⟩ hA l FU FU 0 _ 0 (ρB.1 28 B1) σ (by omega) (by rw [hmap, hll, List.range_eq_range']) (fun z hz => ⟨fun hi => (hKd.2.2.2 z hz).2.1.1 hi, (hKd.2.2.2 z hz).2.2⟩) hKd.1.1.1 hKd.1.2.1 l0 hK (hRM.le (by omega))).le (by omega)
    · -- the reference's node
      unfold f_X11_writes_20
      rw [ny, w20 τ hw]
      refine QT.grd (fun _ => ?_)
      refine QT.ite (fun e => by rw [e] at h7; exact absurd h7 (by decide)) (fun _ => ?_)
      refine QT.ite (fun e => by rw [e] at h7; exact absurd h7 (by decide)) (fun _ => ?_)
      refine QT.ite (fun e => by rw [e] at h7; exact absurd h7 (by decide)) (fun _ => ?_)
      refine QT.ite (fun e => by rw [e] at h7; exact absurd h7 (by decide)) (fun _ => ?_)
      refine QT.ite (fun e => by rw [e] at h7; exact absurd h7 (by decide)) (fun _ => ?_)
      refine QT.ite (fun e => by rw [e] at h7; exact absurd h7 (by decide)) (fun _ => ?_)
      refine w148 τ P hw (fun t et => h t ?_)
      show (f_X11_writes_155 rw_ FU (ρB.1 28 B1) τ).bind _ = some t
      rw [et]
      rfl
  · refine QT.ieq (fun e6 => ?_) (fun e6 => ?_)
    · -- a list
      have h6 : (ρB.1 20 B1).toInt = 6 := by omega
      have hT6 : (T.1 2 u'.toNatClampNeg).toInt = 6 := by rw [hs1]; exact h6
      obtain ⟨l, l1', l2', l3', hKd⟩ := hlist h6
      have hsum : sumA l ≤ A2 - (A1 + 1) := sum_le hKd.2.1.1 (fun z hz => ⟨fun hi => by
        have : A1 < z.2.1.1 := ((hKd.2.2.2 z hz).2.1.1 hi).1
        omega, (hKd.2.2.2 z hz).2.1.2⟩)
      refine QT.bnd (q_sizeOf hrow hr0.1 hr0.2) (fun q hq => ?_)
      subst hq
      dsimp only
      have esz : σ.1 (b + 4) A1 = ρB.1 23 B1 := by
        rw [hK.row hP.1.1 (k := 4) (by omega)]
        refine Int32.toInt_inj.mp ?_
        have h9 : (ρB.1 23 B1).toInt = l.length := hKd.2.2.1.1
        rw [h9]
        exact l3'
      rw [esz]
      refine BTH.imp (b := fun τ => (f_X11_writesNumber ((ρB.1 23 B1).toInt64) τ).bind (f_X11_writes_155 rw_ FU (ρB.1 28 B1))) ?_ (fun τ P hw h => ?_)
      · refine BTH.seq (k1 := 10) (k2 := 300 * ((A2 - A1 : Nat) : Int) - 20) (BTH.num _ (hRM.le (by omega))) (fun s hs hks => ?_) (by omega)
        have hKs := hK.trans hks
        refine QT.bnd (q_firstRow hrow (by rw [hKs.row0 hP.1.1]; omega) (by rw [hKs.row0 hP.1.1]; omega)) (fun q hq => ?_)
        subst hq
        dsimp only
        rw [hKs.row hP.1.1 (k := 7) (by omega)]
        exact (pk_95 (B := (B1, B2)) hP (hV N) hG hT6 ⟨hlev.1, by omega⟩ hA l FU FU 0 _ 0 (ρB.1 28 B1) s (fun z hz => ⟨⟨(hKd.2.2.2 z hz).2.2.1.1, (hKd.2.2.2 z hz).2.1.1 (hKd.2.2.2 z hz).2.2.1.1⟩, (hKd.2.2.2 z hz).2.2.2⟩) hKd.1.1.1 hKd.1.2.1 l0 (by omega) hKs (hRM.to hs (by omega))).le (by omega)
      · unfold f_X11_writes_20
        rw [ny, w20 τ hw]
        refine QT.grd (fun _ => ?_)
        refine QT.ite (fun e => by rw [e] at h6; exact absurd h6 (by decide)) (fun _ => ?_)
        refine QT.ite (fun e => by rw [e] at h6; exact absurd h6 (by decide)) (fun _ => ?_)
        refine QT.ite (fun e => by rw [e] at h6; exact absurd h6 (by decide)) (fun _ => ?_)
        refine QT.ite (fun e => by rw [e] at h6; exact absurd h6 (by decide)) (fun _ => ?_)
        refine QT.ite (fun e => by rw [e] at h6; exact absurd h6 (by decide)) (fun _ => ?_)
        refine QT.ieq (fun _ => ?_) (fun h => by omega)
        rw [show τ.1 23 B1 = ρB.1 23 B1 by rw [hw.1 23 (by omega) (by omega)]]
        refine QT.bnd (Q := fun t => f_X11_writesNumber ((ρB.1 23 B1).toInt64) τ = some t) (fun t et => et) (fun t et => ?_)
        have hwt : KWR ρB t := hw.trans (wk_X11_writesNumber (s := τ) KWR.rf t et)
        refine w148 t P hwt (fun z ez => h z ?_)
        show (f_X11_writesNumber ((ρB.1 23 B1).toInt64) τ).bind _ = some z
        rw [et]
        exact ez
    · -- no others in it
      have h5 : (ρB.1 20 B1).toInt ≤ 5 := by omega
      obtain ⟨⟨⟨hl1, hl2⟩, hE, hn⟩, _⟩ := hleaf h5
      refine QT.bnd (q_worthOf hrow hr0.1 hr0.2) (fun q hq => ?_)
      subst hq
      dsimp only
      have ew : σ.2.1 (b + 6) A1 = ρ.2.1 (b + 6) A1 := by rw [hK.2.2]
      rw [ew]
      refine BTH.imp (b := fun τ => (f_X11_writes_20 rw_ y τ).bind fun q => some q) ?_ (fun τ P hw h t et => h t ?_)
      · refine BTH.seq (k1 := 22) (k2 := 0) (b := f_X11_writes_20 rw_ y) (g := fun q => some q) ?_ (fun s _ _ => BTH.rf (Int.le_refl 0) (fun τ _ => QT.ret rfl)) (by omega)
        have hR22 : RMC 22 σ := hRM.le (by omega)
        have hE : EWR (ρB.1 20 B1).toInt (ρ.2.1 (b + 6) A1) (ρB.2.1 21 B1) (ρB.2.1 22 B1) (ρB.1 23 B1) := hE
        refine BTH.mk (qa_plain _ _ _ _ _ σ hE hR22) (wk_X2_packPlain (s := σ) KPK.rf) (fun τ hw hp => ?_) (fun τ => wk_X11_writes_20 (s := τ) (hKW2 τ) KWR.rf)
        refine pk_own _ _ y σ τ hy (w20 τ hw) ?_ (by rw [w28 τ hw]; exact hl2) hp hR22
        rw [hw.2.2, show τ.1 23 B1 = ρB.1 23 B1 by rw [hw.1 23 (by omega) (by omega)]]
        exact hE
      · show (f_X11_writes_20 rw_ y τ).bind _ = some t
        rw [et]
        rfl
/-- a value -/
theorem pk_value {rd : Prop} {b p n : Nat} {rm : Int} {S T ρ ρB : ST} {N : Nat} {rw_ rwM : Int32 → ST → Option ST} (hP : PKC b p rm S T ρ ρB) (hKW : ∀ (s : ST) (x1 : Int32) (σ : ST), KWR s σ → PF st0 (KWR s) (rwM x1 σ)) (hKW2 : ∀ (s : ST) (x1 : Int32) (σ : ST), KWR s σ → PF st0 (KWR s) (rw_ x1 σ)) (hrw : ∀ (x : Int32) (τ : ST) (P : ST → Prop), QT (f_X11_writes rwM x τ) P → QT (rw_ x τ) P) (hV : ∀ N : Nat, VPK rd b p rm S T ρ ρB n (R_X2_packFields N).2 rw_) : VPK rd b p rm S T ρ ρB (n + 1) (f_X2_packValue (R_X2_packFields N).1 (R_X2_packFields N).2) (f_X11_writes rw_) := by
  have l0 := li_0
  have l8 : (8 : Int32).toInt = 8 := by decide
  have l31 : (31 : Int32).toInt = 31 := by decide
  intro tA tB A B d x y lev σ hG hVal hx hy hA hlev hK hRM
  obtain ⟨A1, A2⟩ := A
  obtain ⟨B1, B2⟩ := B
  have hx : x.toInt = (A1 : Int) := hx
  have hy : y.toInt = (B1 : Int) := hy
  have hA : (A2 : Int) ≤ (ρ.1 b 1).toInt ∧ (A2 : Int) ≤ (ρ.1 b 0).toInt := hA
  have hRM : RMC (300 * ((A2 - A1 : Nat) : Int)) σ := hRM
  obtain ⟨⟨hA1, _⟩, uA, u, hO, ⟨⟨hs1, hs2⟩, hs3⟩, _⟩ := id hVal
  have hA1 : A1 < A2 := hA1
  have hO : OWN S T tA tB (ρB.1 26 B1) uA u := hO
  have hs1 : T.1 2 u.toNatClampNeg = ρB.1 20 B1 := hs1
  have hs2 : ρ.1 (b + 1) A1 = ρB.1 20 B1 := hs2
  obtain ⟨d', hG'⟩ := hO.tg hG
  have ny : y.toNatClampNeg = B1 := nC hy
  have hr0 : (A1 : Int) < (σ.1 b 1).toInt ∧ (A1 : Int) < (σ.1 b 0).toInt := by
    rw [hK.row0 hP.1.1]
    omega
  show BTH ρB (300 * ((A2 - A1 : Nat) : Int)) _ σ _
  unfold f_X2_packValue
  refine QT.ile (fun _ => ?_) (fun h => by omega)
  refine QT.bnd (q_sortAt hx hr0.1 hr0.2) (fun q hq => ?_)
  subst hq
  dsimp only
  have es : σ.1 (b + 1) A1 = ρB.1 20 B1 := by
    rw [hK.row hP.1.1 (k := 1) (by omega)]
    exact hs2
  rw [es]
  rw [(hG.sE hP.2.1.2 (hP.kta hK)).1]
  rw [sbnd]
  dsimp only
  have w26 : ∀ τ, KWR ρB τ → τ.1 26 B1 = ρB.1 26 B1 := fun τ hw => by rw [hw.1 26 (by omega) (by omega)]
  refine QT.ieq (fun e8 => ?_) (fun e8 => ?_)
  · rcases id hO with ⟨_, _, _, h9⟩ | ⟨h8, k, hbk, hkm, ea, eb⟩
    · exact absurd (e8.trans l8) h9
    refine BTH.imp (b := fun τ => (f_X11_writesNumber ((ρB.1 26 B1).toInt64) τ).bind (f_X11_writes_20 rw_ y)) ?_ (fun τ P hw h => ?_)
    · unfold f_X2_packBranch
      rw [(hG.sE hP.2.1.2 (hP.kta hK)).2.1]
      rw [sbnd]
      dsimp only
      have h1 := BTH.seq (k1 := 10) (k2 := 300 * ((A2 - A1 : Nat) : Int) - 10) (k := 300 * ((A2 - A1 : Nat) : Int)) (f := fun q1 => f_X2_packValue_39 (R_X2_packFields N).1 (R_X2_packFields N).2 b x lev (ρB.1 20 B1) uA q1) (g := f_X11_writes_20 rw_ y) (BTH.num (ρB := ρB) ((ρB.1 26 B1).toInt64) (hRM.le (by omega))) (fun s hs hks => pk_39 hP hKW hKW2 hrw hV hG' hVal hO rfl hx hy hA hlev s (hK.trans hks) (hRM.to hs (by omega)) _ rfl) (by omega)
      -- the branch that the class finds is the one that was told
      intro s es9
      obtain ⟨q5, e5, e6⟩ := bnd_some es9
      refine h1 s ?_
      have hq5 : q5.1 = uA ∧ f_X2_putNumber ((ρB.1 26 B1).toInt64) σ = some q5.2 := by
        have := a_branch15 hG hP.2.1.2 (hP.kta hK) h8 (k := k) (s := ρB.1 20 B1) (K := ρB.1 26 B1) hkm hbk (by rw [← hs1, eb]) (P := fun q => q.1 = uA ∧ f_X2_putNumber ((ρB.1 26 B1).toInt64) σ = some q.2) ?_ FU 0 _ 0 0 (Nat.zero_le _) rfl l0 l0 q5 e5
        · exact this
        · unfold f_X2_packBranch_56
          exact QT.bnd (Q := fun t => f_X2_putNumber ((ρB.1 26 B1).toInt64) σ = some t) (fun t et => et) (fun t et => QT.ret ⟨ea.symm, et⟩)
      rw [hq5.1] at e6
      show (f_X2_putNumber ((ρB.1 26 B1).toInt64) σ).bind _ = some s
      rw [hq5.2]
      exact e6
    · unfold f_X11_writes
      rw [ny, w26 τ hw]
      refine QT.grd (fun _ => ?_)
      refine QT.ilt (fun h => by omega) (fun _ => ?_)
      exact h
  · rcases id hO with ⟨hb, e1, e2, h9⟩ | ⟨h8, _⟩
    rotate_left
    · exact absurd (h8.trans l8.symm) e8
    have h1 := pk_39 hP hKW hKW2 hrw hV (N := N) hG' hVal hO rfl hx hy hA hlev σ hK (hRM.le (by omega)) _ rfl
    rw [e1] at h1
    refine (h1.le (by omega)).imp (fun τ P hw h => ?_)
    unfold f_X11_writes
    rw [ny, w26 τ hw]
    refine QT.grd (fun _ => ?_)
    exact QT.ilt (fun _ => h) (fun h => by omega)
theorem VPK.none {rd : Prop} {b p n : Nat} {rm : Int} {S T ρ ρB : ST} {rV : Nat → Int32 → Int32 → Int32 → ST → Option ST} {rw_ rw' : Int32 → ST → Option ST} (h : VPK rd b p rm S T ρ ρB n rV rw_) (e : ∀ (x : Int32) (τ : ST) (P : ST → Prop), QT (rw_ x τ) P → QT (rw' x τ) P) : VPK rd b p rm S T ρ ρB n rV rw' := fun tA tB A B d x y lev σ h1 h2 h3 h4 h5 h6 h7 h8 => (h tA tB A B d x y lev σ h1 h2 h3 h4 h5 h6 h7 h8).imp (fun τ P _ k => e y τ P k)
theorem pk_RV {rd : Prop} {b p : Nat} {rm : Int} {S T ρ ρB : ST} (hP : PKC b p rm S T ρ ρB) : ∀ (n N M : Nat), VPK rd b p rm S T ρ ρB n (R_X2_packFields N).2 (R_X11_writes M) := by
  intro n
  have hw : ∀ (M : Nat) (s : ST) (x1 : Int32) (σ : ST), KWR s σ → PF st0 (KWR s) (R_X11_writes M x1 σ) := fun M s x1 σ h => wkR_X11_writes (s := s) M x1 σ h
  induction n with
  | zero =>
    intro N M tA tB A B d x y lev σ _ h
    exact h.elim
  | succ n ih =>
    intro N M
    cases N with
    | zero => exact fun tA tB A B d x y lev σ _ _ _ _ _ _ _ _ => QT.none
    | succ N =>
      have one : ∀ M : Nat, VPK rd b p rm S T ρ ρB (n + 1) (R_X2_packFields (N + 1)).2 (R_X11_writes (M + 1)) := fun M => by
        cases M with
        | zero => exact pk_value (rwM := R_X11_writes 0) hP (hw 0) (hw 0) (fun x τ P _ => QT.none) (fun N => ih N 0)
        | succ M => exact pk_value (rwM := R_X11_writes M) hP (hw M) (hw (M + 1)) (fun x τ P h => h) (fun N => ih N (M + 1))
      cases M with
      | zero => exact (one 0).none (fun x τ P _ => QT.none)
      | succ M => exact one M
/-! a text begins: both sides -/
def BGN (σ τ a b : ST) : Prop := (LX a b ∧ TWX a b) ∧ ((∀ c, c ≠ 2 → a.1 c = σ.1 c) ∧ (∀ c, c ≠ 2 → a.2.1 c = σ.2.1 c) ∧ a.2.2 = σ.2.2) ∧ (∀ c, c ≠ 0 → b.1 c = τ.1 c) ∧ ∀ i, i ∉ [2, 3, 4, 5, 6, 8, 10, 12, 13] → b.1 0 i = τ.1 0 i
theorem ab_begin (p0 : Int32) (σ τ : ST) (h1 : σ.1 1 = τ.1 1) (hT8 : ∀ i, bI (τ.1 1 i) (-128) 127) (hkw : σ.2.1 3 = kw0) (hp : 0 ≤ p0.toInt ∧ p0.toInt ≤ 1000) : QT (f_X6_begin p0 σ) (fun a => QT (f_X11_begins p0 τ) (fun b => BGN σ τ a b ∧ (uT b : Int) ≤ p0.toInt)) := by
  have l0 := li_0
  intro s1 e1 t et
  obtain ⟨t', et', ct, tx, tu, t2, t3, t12, s, hsk, hTB⟩ := b_begins p0 τ hp
  have e9 : t = t' := Option.some.inj (et.symm.trans et')
  subst e9
  unfold f_X6_begin at e1
  have a9 : (stI (stI (stI (stI σ 2 2 p0) 2 3 0) 2 12 0) 2 13 0).1 2 = upd (upd (upd (upd (σ.1 2) 2 p0) 3 0) 12 0) 13 0 := rfl
  have a1 : ∀ c, c ≠ 2 → (stI (stI (stI (stI σ 2 2 p0) 2 3 0) 2 12 0) 2 13 0).1 c = σ.1 c := fun c hc => by rw [stI_ne hc, stI_ne hc, stI_ne hc, stI_ne hc]
  have a2 : (stI (stI (stI (stI σ 2 2 p0) 2 3 0) 2 12 0) 2 13 0).1 2 2 = p0 := by rw [a9, upd_no (by decide), upd_no (by decide), upd_no (by decide), upd_at]
  have a3 : (stI (stI (stI (stI σ 2 2 p0) 2 3 0) 2 12 0) 2 13 0).1 2 3 = 0 := by rw [a9, upd_no (by decide), upd_no (by decide), upd_at]
  have aL : (stI (stI (stI (stI σ 2 2 p0) 2 3 0) 2 12 0) 2 13 0).2 = σ.2 := rfl
  clear a9
  generalize stI (stI (stI (stI σ 2 2 p0) 2 3 0) 2 12 0) 2 13 0 = u at a1 a2 a3 aL e1
  have hT8u : ∀ i, bI (u.1 1 i) (-128) 127 := by rw [a1 1 (by decide), h1]; exact hT8
  obtain ⟨u9, eu, ca, s', hs', hTA⟩ := a_advance u 0 hT8u (by rw [a2]; exact hp) (by rw [a3]; exact l0) (by omega)
  obtain ⟨sA, hWA, hsA⟩ := pa_advance u 0 hT8u (by rw [a2]; exact hp) (by rw [a3]; exact l0) (by omega) u9 eu
  rw [eu, sbnd] at e1
  cases e1
  -- the reference's token, as it is worth
  have hB : ∃ sB : Nat, TWB (τ.1 1) p0.toInt sB t ∧ (t.1 0 4).toInt = sB := by
    have e2 := et
    unfold f_X11_begins at e2
    have b9 : (stI (stI (stI (stI τ 0 3 p0) 0 2 0) 0 5 0) 0 12 0).1 0 = upd (upd (upd (upd (τ.1 0) 3 p0) 2 0) 5 0) 12 0 := rfl
    have b1 : (stI (stI (stI (stI τ 0 3 p0) 0 2 0) 0 5 0) 0 12 0).1 1 = τ.1 1 := by rw [stI_ne (by omega), stI_ne (by omega), stI_ne (by omega), stI_ne (by omega)]
    have b3 : (stI (stI (stI (stI τ 0 3 p0) 0 2 0) 0 5 0) 0 12 0).1 0 3 = p0 := by rw [b9, upd_no (by decide), upd_no (by decide), upd_no (by decide), upd_at]
    have b5 : (stI (stI (stI (stI τ 0 3 p0) 0 2 0) 0 5 0) 0 12 0).1 0 5 = 0 := by rw [b9, upd_no (by decide), upd_at]
    clear b9
    generalize stI (stI (stI (stI τ 0 3 p0) 0 2 0) 0 5 0) 0 12 0 = w at b1 b3 b5 e2
    obtain ⟨z, ez, ez2⟩ := bnd_some e2
    have ez3 : z = t := Option.some.inj ez2
    subst ez3
    have h9 := pb_go w 0 (by rw [b3]; exact hp) (by rw [b5]; exact l0) (by omega) z ez
    rw [b1, b3] at h9
    exact h9
  rw [a1 1 (by decide), a2, h1] at hs' hTA hWA
  have es : s' = s := hs'.uniq hsk
  subst es
  have t1 : t.1 1 = τ.1 1 := ct.1 1 (by decide) (by decide)
  have hkw9 : s1.2.1 3 = kw0 := by rw [ca.2.2.1 3 (by decide), aL]; exact hkw
  have hK : TK s1 t := TK.mk hT8 hkw9 t1 (by rw [t3]) hTA hTB
  have hX : LX s1 t := by
    refine ⟨⟨?_, ?_, ?_, hkw9⟩, ?_, hK, 0, s', by omega, ?_, ?_⟩
    · rw [ca.1 1 (by decide), a1 1 (by decide), h1, t1]
    · rw [ca.2.1, a2, t3]
    · rw [t1]
      exact hT8
    · rw [t3]
      exact hp
    · rw [t1, t3]
      exact hsk
    · rw [t1, t3]
      exact hTB
  obtain ⟨sB, hWB, hsB⟩ := hB
  have eAB : sA = sB := by
    have := hK.1
    omega
  subst eAB
  have hW : TWX s1 t := TWX.mk hX hsB (by rw [t1, t3]; exact hWA) (by rw [t1, t3]; exact hWB)
  refine ⟨⟨⟨hX, hW⟩, ⟨fun c hc => (ca.1 c hc).trans (a1 c hc), fun c hc => (ca.2.2.1 c hc).trans (by rw [aL]), ca.2.2.2.trans (by rw [aL])⟩, fun c hc => ct.1 c hc (by simp), fun i hi => ct.2.1 i hi⟩, by omega⟩
/-! messages -/
/-- both hold the same messages -/
def MSG (σ τ : ST) : Prop := ∀ m : Nat, m < 4 → σ.1 40 m = τ.1 32 m ∧ (¬ (τ.1 32 m).toInt = -1 → σ.1 39 m = τ.1 33 m ∧ (0 ≤ (τ.1 33 m).toInt ∧ (τ.1 33 m).toInt ≤ 400) ∧ ∀ i : Nat, (i : Int) < (τ.1 33 m).toInt → σ.1 38 (400 * m + i) = τ.1 34 (400 * m + i))
theorem MSG.eq {σ τ s t : ST} (h : MSG σ τ) (a1 : s.1 38 = σ.1 38) (a2 : s.1 39 = σ.1 39) (a3 : s.1 40 = σ.1 40) (b1 : t.1 32 = τ.1 32) (b2 : t.1 33 = τ.1 33) (b3 : t.1 34 = τ.1 34) : MSG s t := by
  intro m hm
  rw [a1, a2, a3, b1, b2, b3]
  exact h m hm
theorem nar_byte {v : Int32} (h : bI v (-128) 127) : vp_nar .byte v = v := by
  obtain ⟨h1, h2⟩ := h
  show v.toInt8.toInt32 = v
  refine Int32.toInt_inj.mp ?_
  rw [Int8.toInt_toInt32, Int32.toInt_toInt8]
  exact Int.bmod_eq_of_le (by omega) (by omega)
theorem fits_byt {x : Int32} (h : fits .byte (.int x) = true) : bI x (-128) 127 := by
  unfold fits at h
  simp only [decide_eq_true_eq, Bool.and_eq_true] at h
  exact ⟨Int32.le_iff_toInt_le.mp h.1, Int32.le_iff_toInt_le.mp h.2⟩
theorem b_becomes19 (p0 : Int32) (τ : ST) {m : Nat} (h0 : p0.toInt = m) (hm : m < 4) (hN : 0 ≤ (τ.1 0 48).toInt ∧ (τ.1 0 48).toInt ≤ 400) : ∀ (n k : Nat) (x3 : Int32) (σ : ST), x3.toInt = k → (∀ c, c ≠ 34 → σ.1 c = τ.1 c) → (∀ j, σ.1 34 j = if 400 * m ≤ j ∧ j < 400 * m + k then vp_nar .byte (τ.1 31 (j - 400 * m)) else τ.1 34 j) → (k : Int) ≤ (τ.1 0 48).toInt → QT (f_X11_becomes_19 n p0 x3 σ) (fun t => (∀ c, c ≠ 34 → t.1 c = τ.1 c) ∧ ∀ j, t.1 34 j = if 400 * m ≤ j ∧ j < 400 * m + (τ.1 0 48).toInt.toNat then vp_nar .byte (τ.1 31 (j - 400 * m)) else τ.1 34 j) := by
  have l1 := li_1
  have l400 := li_400
  intro n
  induction n with
  | zero =>
    intro k x3 σ _ _ _ _
    rw [f_X11_becomes_19]
    exact QT.none
  | succ n ih =>
    intro k x3 σ h3 hc h34 hk
    rw [f_X11_becomes_19]
    rw [hc 0 (by omega), hc 31 (by omega)]
    refine QT.ile (fun hle => QT.ret ⟨hc, fun j => ?_⟩) (fun hlt => ?_)
    · rw [h34 j, show (τ.1 0 48).toInt.toNat = k by omega]
    · refine QT.grd (fun _ => QT.grd (fun _ => ?_))
      have e1 := mlE (k := 400) (y := p0) 400 l400 (by omega) (by omega)
      have e2 := il_addE (x := 400 * p0) (y := x3) (by omega) (by omega)
      have n2 : ((400 * p0) + x3).toNatClampNeg = 400 * m + k := nC (by omega)
      have n3 : x3.toNatClampNeg = k := nC h3
      have e3 := il_addE (x := x3) (y := 1) (by omega) (by omega)
      rw [n2, n3]
      refine ih (k + 1) (x3 + 1) _ (by omega) (fun c hc9 => by rw [stI_ne hc9]; exact hc c hc9) (fun j => ?_) (by omega)
      rw [stI_at]
      by_cases ej : j = 400 * m + k
      · rw [upA ej, if_pos (by omega), show j - 400 * m = k by omega]
      · rw [upN ej, h34 j]
        by_cases h9 : 400 * m ≤ j ∧ j < 400 * m + k
        · rw [if_pos h9, if_pos (by omega)]
        · rw [if_neg h9, if_neg (by omega)]
/-- a message is another one: both sides -/
theorem ab_store (p0 p1 : Int32) (σ τ : ST) (hM : MSG σ τ) (hK : PKR σ τ) (h49 : τ.1 0 49 = 0) : QT (f_X1_store p0 p1 σ) (fun s => QT (f_X11_becomes p0 p1 τ) (fun t => MSG s t)) := by
  have l0 := li_0
  have l400 := li_400
  obtain ⟨⟨hN0, hN4⟩, hK⟩ := hK
  rcases hK with ⟨_, hsz, hby⟩ | ⟨h9, _⟩
  rotate_left
  · exact absurd h49 h9
  have esz : σ.1 87 2 = τ.1 0 48 := Int32.toInt_inj.mp hsz
  unfold f_X1_store f_X11_becomes
  refine QT.sw ?_
  refine QT.grd (fun hp => ?_)
  refine QT.sw ?_
  obtain ⟨m, hm⟩ : ∃ m : Nat, p0.toInt = m := ⟨p0.toInt.toNat, by omega⟩
  have nm : p0.toNatClampNeg = m := nC hm
  have hm4 : m < 4 := by omega
  refine QT.bndR (k2_isNumber p0 σ) (fun v hv => ?_)
  dsimp only
  refine QT.ieq (fun h => by omega) (fun _ => ?_)
  refine QT.ilt (fun h => by omega) (fun _ => QT.grd (fun hgd => ?_))
  refine QT.lt (fun z3 hz3 => QT.grd (fun _ => QT.ret ?_))
  rw [nm]
  refine QT.lt (fun z2 hz2 => ?_)
  have e1 := mlE (k := 400) (y := p0) 400 l400 (by omega) (by omega)
  have e1' : (p0 * 400).toInt = 400 * (m : Int) := by
    rw [Int32.mul_comm]
    omega
  have n4 : (p0 * 400).toNatClampNeg = 400 * m := nC (by omega)
  have n0 : (0 : Int32).toNatClampNeg = 0 := by decide
  have z2c : ∀ c, c ≠ 32 → c ≠ 33 → z2.1 c = τ.1 c := fun c h1 h2 => by rw [hz2, stI_ne h2, stI_ne h1]
  have z232 : z2.1 32 = upd (τ.1 32) m p1 := by rw [hz2, stI_ne (by omega), stI_at]
  have z233 : z2.1 33 = upd (τ.1 33) m (τ.1 0 48) := by
    rw [hz2, stI_at, stI_ne (by omega), stI_ne (by omega)]
  have z20 : z2.1 0 = τ.1 0 := z2c 0 (by omega) (by omega)
  have z48 : 0 ≤ (z2.1 0 48).toInt ∧ (z2.1 0 48).toInt ≤ 400 := by rw [z20]; omega
  refine (b_becomes19 p0 z2 hm hm4 z48 FU 0 0 z2 l0 (fun _ _ => rfl) (fun j => by rw [if_neg (by omega)]) (by omega)).mono (fun t ht => ?_)
  obtain ⟨t1, t34⟩ := ht
  rw [z20, z2c 31 (by omega) (by omega), z2c 34 (by omega) (by omega)] at t34
  have nsz : (σ.1 87 2).toNatClampNeg = (τ.1 0 48).toInt.toNat := by rw [esz]; rfl
  have z338 : z3.1 38 = va_cpy (σ.1 88) (σ.1 38) 0 (400 * m) (τ.1 0 48).toInt.toNat := by
    rw [hz3, n0, n4, nsz]
    rfl
  have z3c : ∀ c, c ≠ 38 → z3.1 c = σ.1 c := fun c hc => by rw [hz3]; exact stF_ne5 hc
  intro k hk
  have t32 : t.1 32 = upd (τ.1 32) m p1 := by rw [t1 32 (by omega), z232]
  have t33 : t.1 33 = upd (τ.1 33) m (τ.1 0 48) := by rw [t1 33 (by omega), z233]
  have s40 : (stI (stI z3 39 m (z3.1 87 2)) 40 m p1).1 40 = upd (σ.1 40) m p1 := by
    rw [stI_at, stI_ne (by omega), z3c 40 (by omega)]
  have s39 : (stI (stI z3 39 m (z3.1 87 2)) 40 m p1).1 39 = upd (σ.1 39) m (τ.1 0 48) := by
    rw [stI_ne (by omega), stI_at, z3c 39 (by omega), z3c 87 (by omega), esz]
  have s38 : (stI (stI z3 39 m (z3.1 87 2)) 40 m p1).1 38 = va_cpy (σ.1 88) (σ.1 38) 0 (400 * m) (τ.1 0 48).toInt.toNat := by
    rw [stI_ne (by omega), stI_ne (by omega), z338]
  rw [s40, s39, s38, t32, t33]
  by_cases ek : k = m
  · subst ek
    rw [upA rfl, upA rfl, upA rfl, upA rfl]
    refine ⟨rfl, fun _ => ⟨rfl, ⟨hN0, hN4⟩, fun i hi => ?_⟩⟩
    have hi' : i < (τ.1 0 48).toInt.toNat := by omega
    rw [t34 (400 * k + i), if_pos (by omega)]
    unfold va_cpy
    rw [if_pos (by omega), show 400 * k + i - 400 * k = i by omega, Nat.zero_add, ← hby i hi]
    have hfi := hgd.2.2.2.2.2 i (by rw [nsz]; exact hi')
    rw [n0, Nat.zero_add] at hfi
    exact (nar_byte (fits_byt hfi)).symm
  · rw [upN ek, upN ek, upN ek, upN ek]
    obtain ⟨h1, h2⟩ := hM k hk
    refine ⟨h1, fun h9 => ?_⟩
    obtain ⟨h3, h4, h5⟩ := h2 h9
    refine ⟨h3, h4, fun i hi => ?_⟩
    rw [t34 (400 * k + i), if_neg (by omega)]
    unfold va_cpy
    rw [if_neg (by omega)]
    exact h5 i hi
/-! a message written: both sides -/
theorem KTB.i0 {s σ : ST} {i : Nat} {v : Int32} (h : KTB s σ) : KTB s (stI σ 0 i v) := h.i (by decide)
theorem PHB.tg {p : Nat} {S T : ST} (h : PHB 4 p S T) (hp : p < 6) (h2 : (T.1 2 799).toInt = 7) (h3 : (T.1 3 799).toInt = 0) : TG p (T.1 8 p).toInt S T 0 (S.1 6 p) 799 := by
  have l799 : (799 : Int32).toInt = 799 := by decide
  have n799 : (799 : Int32).toNatClampNeg = 799 := by decide
  obtain ⟨⟨_, c1, c2⟩, ⟨r1, r2, r3⟩, _⟩ := h
  have r1 : 0 ≤ (S.1 6 p).toInt ∧ (S.1 6 p).toInt < (S.1 4 1).toInt := r1
  have r2 : (S.1 15 (S.1 6 p).toNatClampNeg).toInt = 7 := r2
  have r3 : (S.1 16 (S.1 6 p).toNatClampNeg).toInt = 6 * (p : Int) := r3
  unfold TG
  rw [n799]
  refine ⟨⟨r1, by omega⟩, Int32.toInt_inj.mp (by omega), by omega, fun h => by omega, fun _ => ⟨by omega, by omega⟩, fun h => by omega⟩
/-- the bytes of a tree: both sides -/
theorem ab_pack {rd : Prop} {b p : Nat} {rm : Int} {S T ρ ρB : ST} (hP : PKC b p rm S T ρ ρB) {tA tB : Int32} {d e f : Nat} (hG : TG p rm S T d tA tB) (hV : VAL rd b p S T ρ ρB 32 tA tB (0, e) (0, f)) (he : (e : Int) ≤ (ρ.1 b 1).toInt ∧ (e : Int) ≤ (ρ.1 b 0).toInt) (he2 : e ≤ 1000) : QT (f_X2_pack b tA ρ) (fun s => QT (f_X11_writesTree 0 ρB) (fun t => PKR s t ∧ KPK ρ s ∧ KWR ρB t ∧ 0 ≤ (s.1 87 2).toInt)) := by
  have l0 := li_0
  unfold f_X2_pack f_X11_writesTree
  have k0 : KPK ρ (stI ρ 87 2 0) := KPK.rf.i (.inl ⟨rfl, rfl⟩)
  have s0 : (stI ρ 87 2 0).1 87 2 = 0 := by rw [stI_at, upA rfl]
  have w0 : KWR ρB (stI (stI ρB 0 48 0) 0 49 0) := (KWR.rf.i (by omega)).i (by omega)
  have t48 : (stI (stI ρB 0 48 0) 0 49 0).1 0 48 = 0 := by rw [stI_at, upN (by omega), stI_at, upA rfl]
  have t49 : (stI (stI ρB 0 48 0) 0 49 0).1 0 49 = 0 := by rw [stI_at, upA rfl]
  have e9 : ((e - 0 : Nat) : Int) = e := by omega
  have h := pk_RV hP 32 FR FRB tA tB (0, e) (0, f) d 0 0 0 _ hG hV l0 l0 he (by omega) k0 ⟨by rw [s0, l0]; omega, by rw [s0, l0]; show (0 : Int) + 300 * ((e - 0 : Nat) : Int) ≤ _; omega⟩
  refine QT.bnd h (fun s hs => QT.ret ?_)
  refine QT.bnd (hs.2 _ w0 ⟨by rw [t48, l0]; omega, .inl ⟨t49, by rw [s0, t48], fun i hi => by rw [t48, l0] at hi; omega⟩⟩) (fun t ht => QT.ret ⟨ht.1, k0.trans hs.1.2, ht.2, ?_⟩)
  have := hs.1.1.1
  rw [s0, l0] at this
  exact this
/-- the class keeps no tree but the one that is told, and the token -/
theorem KVA.msg {σ s τ : ST} (h : MSG σ τ) (k : KVA σ s) : MSG s τ := h.eq (k.1 38 (by omega) (by omega)) (k.1 39 (by omega) (by omega)) (k.1 40 (by omega) (by omega)) rfl rfl rfl
theorem KVB.msg {σ τ t : ST} (h : MSG σ τ) (k : KVB τ t) : MSG σ t := h.eq rfl rfl rfl (k.1 32 (by omega) (by omega) (by omega)) (k.1 33 (by omega) (by omega) (by omega)) (k.1 34 (by omega) (by omega) (by omega))
theorem KPK.msg {σ s τ : ST} (h : MSG σ τ) (k : KPK σ s) : MSG s τ := h.eq (k.1 38 (by omega) (by omega)) (k.1 39 (by omega) (by omega)) (k.1 40 (by omega) (by omega)) rfl rfl rfl
theorem KWR.msg {σ τ t : ST} (h : MSG σ τ) (k : KWR τ t) : MSG σ t := h.eq rfl rfl rfl (k.1 32 (by omega) (by omega)) (k.1 33 (by omega) (by omega)) (k.1 34 (by omega) (by omega))
/-- the reference's end of write -/
theorem q_84 (x1 x2 x3 : Int32) (τ : ST) {P : ST → Prop} (h : P τ) : QT (f_X11_write_84 x1 x2 x3 0 τ) (fun q => P q.1.2) := by
  unfold f_X11_write_84 f_X11_write_118 f_X11_write_129
  refine QT.ite (fun _ => ?_) (fun h => absurd rfl h)
  refine QT.ite (fun _ => ?_) (fun h => absurd rfl h)
  exact QT.ite (fun _ => QT.ret h) (fun h => absurd rfl h)
theorem q_wrongK (p0 p1 : Int32) (σ : ST) : QT (f_X11_wrong p0 p1 σ) (fun q => q.1 = 0 ∧ KVB σ q.2) := by
  refine QT.and ?_ (fun q e => wv_X11_wrong (s := σ) KVB.rf q e)
  unfold f_X11_wrong f_X11_wrong_21
  exact QT.ite (fun _ => QT.ret rfl) (fun _ => QT.ret rfl)
theorem ab_write (p0 p1 p2 : Int32) (σ τ : ST) (hA : IA σ) (hB : IB τ) (hF : FE σ τ) (hc : σ.1 4 0 = τ.1 0 32) (hkw : σ.2.1 3 = kw0) (hT8 : T8 σ) (hT5 : T5 σ τ) (hM : MSG σ τ) : QT (f_X10_write p0 p1 p2 σ) (fun qa => QT (f_X11_write p0 p1 p2 τ) (fun qb => MSG qa.2 qb.1.2)) := by
  have l0 := li_0
  have l1 := li_1
  have lm := li_m1
  have l400 := li_400
  have l3' := l64_3
  have l0' := l64_0
  have htape := hA.tape
  unfold bI at htape
  have hpl := hB.1.1
  unfold f_X10_write f_X11_write
  have hM0 : MSG σ (stI τ 0 0 0) := hM.eq rfl rfl rfl (stI_ne (by omega)) (stI_ne (by omega)) (stI_ne (by omega))
  have g2 : (stI τ 0 0 0).1 0 2 = τ.1 0 2 := rfl
  have g32 : (stI τ 0 0 0).1 0 32 = τ.1 0 32 := rfl
  have g1 : (stI τ 0 0 0).1 1 = τ.1 1 := stI_ne (by omega)
  have gT : KTB τ (stI τ 0 0 0) := KTB.rf.i0
  generalize stI τ 0 0 0 = u at hM0 g2 g32 g1 gT
  have i0 := i64 p0
  have i2 := i64 p2
  have iu := i64 (u.1 0 2)
  have iu2 : (u.1 0 2).toInt = (τ.1 0 2).toInt := by rw [g2]
  have e01 : σ.1 0 1 = τ.1 0 2 := hF.1
  refine QT.bndR (k2_isNumber p0 σ) (fun v hv => ?_)
  dsimp only
  refine QT.sw ?_
  refine QT.bndR (b_within _ _ _ _) (fun w hw => ?_)
  dsimp only
  refine QT.sw ?_
  have kp := k2_isPlan p1 σ
  refine QT.ieq (fun hv0 => ?_) (fun hv0 => ?_)
  · refine QT.ret ?_
    exact QT.ieq (fun _ => QT.ret hM0) (fun h => by omega)
  refine QT.bndR kp (fun v2 hv2 => ?_)
  rw [hc] at hv2
  dsimp only
  refine QT.sw ?_
  refine QT.ieq (fun h => by omega) (fun _ => ?_)
  refine QT.bndR (b_isPlanAt p1 u (by rw [g32]; exact hpl)) (fun w2 hw2 => ?_)
  rw [g32] at hw2
  dsimp only
  refine QT.sw ?_
  refine QT.ieq (fun hv0 => ?_) (fun hv0 => ?_)
  · refine QT.ret ?_
    exact QT.ieq (fun _ => QT.ret hM0) (fun h => by omega)
  have hp1 : 0 ≤ p1.toInt ∧ p1.toInt < (τ.1 0 32).toInt := by
    rcases hv2 with h9 | h9
    · omega
    · exact h9.2
  have hp0 : 0 ≤ p0.toInt ∧ p0.toInt < 4 := by
    rcases hv with h9 | h9
    · omega
    · exact h9.2
  refine QT.sw ?_
  refine QT.ieq (fun h => by omega) (fun _ => ?_)
  refine QT.bndR (b_within _ _ _ _) (fun w3 hw3 => ?_)
  dsimp only
  refine QT.sw ?_
  refine QT.ilt (fun hn => QT.ret (QT.ieq (fun _ => QT.ret hM0) (fun h => by omega))) (fun hn0 => ?_)
  refine QT.ile (fun hle => ?_) (fun hgt => QT.ret (QT.ieq (fun _ => QT.ret hM0) (fun h => by rw [e01] at hgt; omega)))
  rw [e01] at hle htape
  refine QT.sw ?_
  refine QT.ieq (fun h => by omega) (fun _ => ?_)
  refine QT.sw ?_
  -- the text
  have hT8u : ∀ i, bI (u.1 1 i) (-128) 127 := fun i => by rw [g1, ← hF.2]; exact hT8 i
  have s1c : ∀ c, c ≠ 0 → (stI σ 0 1 0).1 c = σ.1 c := fun c h => stI_ne h
  refine QT.bnd2 (Q := fun a b => (BGN (stI σ 0 1 0) u a b ∧ (uT b : Int) ≤ p2.toInt) ∧ KTB τ b) (fun a ea b eb => ⟨ab_begin p2 (stI σ 0 1 0) u (by rw [s1c 1 (by omega), g1]; exact hF.2) hT8u hkw (by omega) a ea b eb, w_X11_begins (s := τ) gT b eb⟩) (fun a b hab => ?_)
  obtain ⟨hab, hTb⟩ := hab
  obtain ⟨⟨hXW, ⟨f1, f2, f3⟩, f4, f5⟩, hub⟩ := hab
  obtain ⟨p, hp⟩ : ∃ p : Nat, p1.toInt = p := ⟨p1.toInt.toNat, by omega⟩
  have hp6 : p < 6 := by
    unfold bI at hpl
    omega
  have np1 : p1.toNatClampNeg = p := nC hp
  have root : ∀ s : ST, f_X5_rootType 4 p1 s = some (s.1 6 p, s) := fun s => by
    unfold f_X5_rootType
    rw [if_neg (fun h => by have := Int32.lt_iff_toInt_lt.mp h; omega), if_neg (fun h => by have := Int32.le_iff_toInt_le.mp h; have l6 := li_6; omega), if_pos (by omega), np1]
  rw [root]
  rw [sbnd]
  dsimp only
  unfold f_X8_parse f_X7_clear
  rw [sbnd]
  unfold f_X11_rootType
  refine QT.sw ?_
  refine QT.lt (fun q9 hq9 => ?_)
  subst hq9
  dsimp only
  refine QT.sw ?_
  -- what both start from
  generalize hS : stI a 62 1 0 = S
  generalize hT : stI (stI (stI b 0 46 0) 2 (799 : Int32).toNatClampNeg 7) 3 (799 : Int32).toNatClampNeg 0 = T
  have n799 : (799 : Int32).toNatClampNeg = 799 := by decide
  rw [n799] at hT
  have S0 : ∀ c, c ≠ 62 → S.1 c = a.1 c := fun c h => by rw [← hS]; exact stI_ne h
  have S62 : S.1 62 = upd (a.1 62) 1 0 := by rw [← hS]; exact stI_at
  have SL : S.2 = a.2 := by rw [← hS]; rfl
  have T0 : ∀ c, c ≠ 0 → c ≠ 2 → c ≠ 3 → T.1 c = b.1 c := fun c h0 h2 h3 => by rw [← hT, stI_ne h3, stI_ne h2, stI_ne h0]
  have T00 : T.1 0 = upd (b.1 0) 46 0 := by rw [← hT, stI_ne (by omega), stI_ne (by omega), stI_at]
  have T2 : T.1 2 = upd (b.1 2) 799 7 := by rw [← hT, stI_ne (by omega), stI_at, stI_ne (by omega)]
  have T3 : T.1 3 = upd (b.1 3) 799 0 := by rw [← hT, stI_at, stI_ne (by omega), stI_ne (by omega)]
  have TL : T.2 = b.2 := by rw [← hT]; rfl
  have aσ : ∀ c, c ≠ 0 → c ≠ 2 → a.1 c = σ.1 c := fun c h0 h2 => (f1 c h2).trans (s1c c h0)
  have hKTBT : KTB τ T := by
    rw [← hT]
    exact (hTb.i0 (i := 46) (v := 0)).t
  have hKTA : KTA σ S := fun c h1 h2 => ⟨by rw [S0 c (by omega), aσ c (by omega) (by omega)], by rw [SL, f2 c (by omega)]; rfl⟩
  have hPHB : PHB 4 p S T := (hT5 p (by omega)).keep hp6 hKTA hKTBT.kr
  have e6 : a.1 6 p = S.1 6 p := by rw [S0 6 (by omega)]
  have hTG : TG p (T.1 8 p).toInt S T 0 (S.1 6 p) 799 := hPHB.tg hp6 (by rw [T2, upA rfl]; decide) (by rw [T3, upA rfl]; decide)
  have hu9 : uT T = uT b := uT_eq (by rw [T00, upN (by omega)]) (by rw [T00, upN (by omega)]) (by rw [T00, upN (by omega)])
  have hXW2 : LX S T ∧ TWX S T := by
    refine ⟨hXW.1.ext (S0 1 (by omega)) (S0 2 (by omega)) (by rw [SL]) (by rw [SL]) (T0 1 (by omega) (by omega) (by omega)) (fun i hi => by
      rw [T00, upN (fun e => by rw [e] at hi; revert hi; decide)]) (by rw [TL]), hXW.2.ext (S0 2 (by omega)) (by rw [SL]) (by rw [T00, upN (by omega)]) (by rw [TL]) (by rw [TL])⟩
  have c62 : (σ.1 62 0).toInt = 502 := hA.t62.1
  have hC : CXT S T S T 0 0 (1000 + (0 : Nat)) := by
    refine ⟨⟨KVA.rf, KVB.rf⟩, hXW2, ⟨?_, ?_⟩, ?_, ?_, by omega⟩
    · rw [S62, upA rfl]
      exact l0
    · rw [S62, upN (by omega), aσ 62 (by omega) (by omega)]
      exact c62
    · rw [T00, upA rfl]
      exact l0
    · omega
  have hMS : MSG S T := hM0.eq (by rw [S0 38 (by omega), aσ 38 (by omega) (by omega)]) (by rw [S0 39 (by omega), aσ 39 (by omega) (by omega)]) (by rw [S0 40 (by omega), aσ 40 (by omega) (by omega)]) (by rw [T0 32 (by omega) (by omega) (by omega), f4 32 (by omega)]) (by rw [T0 33 (by omega) (by omega) (by omega), f4 33 (by omega)]) (by rw [T0 34 (by omega) (by omega) (by omega), f4 34 (by omega)])
  rw [e6]
  have hval := (ab_RV hPHB hp6 FR FRB).2.2 0 0 0 (S.1 6 p) 799 (-1) (-1) 0 p1 0 [] [] S T 0 0 (by omega) l0 l0 hp hTG hC (.inl ⟨⟨lm, lm⟩, rfl, rfl, l0⟩)
  have hboth : QT (f_T_X8_parseValue (S.1 6 p) (-1) 0 0 S) (fun qa => QT (f_T_X11_value p1 799 0 (-1) 0 T) (fun qb => VOUT (0 : Nat) (VPOST p S T 0 (S.1 6 p) 799 0 0 (-1) (-1) 0 [] [] S T) qa qb.1 ∧ KVA S qa.2 ∧ KVB T qb.1.2)) := fun qa ea qb eb => ⟨hval qa ea qb eb, wv_T_X8_parseValue (s := S) KVA.rf qa ea, wv_T_X11_value (s := T) KVB.rf qb eb⟩
  -- both read the value
  refine QT.bnd2 (Q := fun (q9 : Int32 × ST) (qb : (Int32 × ST) × Nat) => (q9.1 = 0 ∧ (qb.1.1 = 0 ∨ ¬ qb.1.1 = 0 ∧ ¬ (qb.1.2.1 0 6).toInt = 0) ∧ MSG q9.2 qb.1.2) ∨ (¬ q9.1 = 0 ∧ ¬ qb.1.1 = 0 ∧ (qb.1.2.1 0 6).toInt = 0 ∧ MSG q9.2 qb.1.2 ∧ VPOST p S T 0 (S.1 6 p) 799 0 0 (-1) (-1) 0 [] [] S T q9.2 qb.1.2)) ?_ (fun q9 qb hq => ?_)
  · refine QT.bnd hboth (fun qa hqa => ?_)
    refine QT.ite (fun e0 => QT.ret (hqa.mono (fun qb h => ?_))) (fun e0 => ?_)
    · obtain ⟨h1, h2, h3⟩ := h
      refine .inl ⟨rfl, ?_, (hMS.eq (h2.1 38 (by omega) (by omega)) (h2.1 39 (by omega) (by omega)) (h2.1 40 (by omega) (by omega)) (h3.1 32 (by omega) (by omega) (by omega)) (h3.1 33 (by omega) (by omega) (by omega)) (h3.1 34 (by omega) (by omega) (by omega)))⟩
      rcases h1 with ⟨_, h1⟩ | ⟨h1, _⟩
      · rcases h1 with h1 | ⟨h1, _, h4⟩
        · exact .inl h1
        · exact .inr ⟨h1, by omega⟩
      · rw [e0] at h1
        omega
    · refine QT.ieq (fun hk => ?_) (fun hk => ?_)
      · unfold f_X8_parse_41
        refine QT.ret (hqa.mono (fun qb h => ?_))
        obtain ⟨h1, h2, h3⟩ := h
        rcases h1 with ⟨h1, _⟩ | ⟨_, h1, h4⟩
        · exact absurd (Int32.toInt_inj.mp (h1.trans l0.symm)) e0
        · obtain ⟨e, f, hC9, _⟩ := id h4
          refine .inr ⟨one_ne, fun h => by rw [h] at h1; omega, hC9.2.1.1.2.2.1.t0.mp (by omega), (hMS.eq (h2.1 38 (by omega) (by omega)) (h2.1 39 (by omega) (by omega)) (h2.1 40 (by omega) (by omega)) (h3.1 32 (by omega) (by omega) (by omega)) (h3.1 33 (by omega) (by omega) (by omega)) (h3.1 34 (by omega) (by omega) (by omega))), h4⟩
      · refine QT.bnd (Q := fun q5 => q5.1.toInt = 0 ∧ KVA qa.2 q5.2) (QT.and (QT.ok (a_refuse 1 qa.2)) (fun q e => wv_X6_refuse (s := qa.2) KVA.rf q e)) (fun q5 hq5 => ?_)
        obtain ⟨hq5, hk5⟩ := hq5
        refine QT.ieq (fun _ => QT.ret (hqa.mono (fun qb h => ?_))) (fun h => by omega)
        obtain ⟨h1, h2, h3⟩ := h
        rcases h1 with ⟨h1, _⟩ | ⟨_, h1, h4⟩
        · exact absurd (Int32.toInt_inj.mp (h1.trans l0.symm)) e0
        · obtain ⟨e, f, hC9, _⟩ := id h4
          have h2 := h2.trans hk5
          refine .inl ⟨rfl, .inr ⟨fun h => by rw [h] at h1; omega, fun h => hk ((hC9.2.1.1.2.2.1.t0.mpr h).trans l0.symm)⟩, (hMS.eq (h2.1 38 (by omega) (by omega)) (h2.1 39 (by omega) (by omega)) (h2.1 40 (by omega) (by omega)) (h3.1 32 (by omega) (by omega) (by omega)) (h3.1 33 (by omega) (by omega) (by omega)) (h3.1 34 (by omega) (by omega) (by omega)))⟩
  · rcases hq with ⟨e0, hb, hM9⟩ | ⟨e0, hb, htok, hM9, hP9⟩
    · -- refused
      refine QT.ite (fun _ => ?_) (fun h => absurd e0 h)
      unfold f_X6_faultAnswer
      rw [sbnd]
      refine QT.ret ?_
      refine QT.kac ?_
      rcases hb with hb | ⟨hb, ht⟩
      · refine QT.ite (fun _ => ?_) (fun h => absurd hb h)
        rw [hb]
        exact q_84 p0 p1 p2 qb.1.2 (P := fun t => MSG q9.2 t) hM9
      · refine QT.ite (fun h => absurd h hb) (fun _ => ?_)
        refine QT.ieq (fun h => absurd (h.trans l0) ht) (fun _ => ?_)
        refine QT.bnd (Q := fun q => q.1 = 0 ∧ KVB qb.1.2 q.2) (QT.and (q_wrong 1 qb.1.2) (fun q e => wv_X11_wrongHere (s := qb.1.2) KVB.rf q e)) (fun q13 h13 => ?_)
        rw [h13.1]
        exact q_84 p0 p1 p2 q13.2 (P := fun t => MSG q9.2 t) (h13.2.msg hM9)
    · -- a value: its bytes
      obtain ⟨e, f, hC9, ⟨he, hf, _⟩, hV9, _⟩ := hP9
      obtain ⟨⟨kA9, kB9⟩, _, ⟨c1, c0⟩, cv, _, ce⟩ := hC9
      refine QT.ite (fun h => absurd h e0) (fun _ => ?_)
      rw [root]
      rw [sbnd]
      dsimp only
      rw [show q9.2.1 6 p = S.1 6 p by rw [kA9.1 6 (by omega) (by omega)]]
      refine QT.sw ?_
      refine QT.kac ?_
      refine QT.ite (fun h => absurd h hb) (fun _ => ?_)
      refine QT.ieq (fun _ => ?_) (fun h => absurd (htok.trans l0.symm) h)
      unfold f_X11_write_84
      refine QT.ite (fun h => absurd h hb) (fun _ => ?_)
      refine QT.sw ?_
      have hPK : PKC 62 p (T.1 8 p).toInt S T q9.2 qb.1.2 := ⟨⟨by omega, by omega⟩, ⟨kA9.kta, hPHB.cnt.2.2⟩, fun i hi => hPHB.rec hp6 hi⟩
      have hV9 : VAL False 62 p S T q9.2 qb.1.2 32 (S.1 6 p) 799 (0, e) (0, f) := hV9
      refine QT.bnd2 (ab_pack hPK hTG hV9 ⟨by omega, by omega⟩ (by omega)) (fun s t hst => ?_)
      obtain ⟨g1, g2, g3, g4⟩ := hst
      have hMst : MSG s t := g3.msg (g2.msg hM9)
      refine QT.ile (fun hle => ?_) (fun hgt => ?_)
      · have h49 : t.1 0 49 = 0 := by
          rcases g1.2 with h9 | h9
          · exact h9.1
          · have := h9.2.2
            omega
        refine QT.sw ?_
        refine QT.ite (fun _ => ?_) (fun h => absurd h49 h)
        unfold f_X11_write_111 f_X11_write_116 f_X11_write_118
        refine QT.ite (fun h => absurd h one_ne) (fun _ => ?_)
        refine QT.sw ?_
        refine QT.bnd2 (ab_store p0 p1 s t hMst g1 h49) (fun s' t' h' => QT.ret ?_)
        unfold f_X11_write_129
        refine QT.ite (fun h => absurd h one_ne) (fun _ => QT.ret ?_)
        show MSG s' t'
        exact h'
      · have h49 : ¬ t.1 0 49 = 0 := by
          rcases g1.2 with h9 | h9
          · have := h9.2.1
            have := g1.1.2
            omega
          · exact h9.1
        refine QT.bnd (Q := fun q => KVA s q.2) (fun q e => wv_X6_refuse (s := s) KVA.rf q e) (fun q17 h17 => ?_)
        unfold f_X6_faultAnswer
        rw [sbnd]
        refine QT.ret ?_
        refine QT.ite (fun h => absurd h h49) (fun _ => ?_)
        refine QT.bnd (q_wrongK _ _ t) (fun q3 h3 => ?_)
        obtain ⟨a17, y17⟩ := q17
        obtain ⟨a3, y3⟩ := q3
        have h17 : KVA s y17 := h17
        obtain ⟨h30, h3⟩ := h3
        have h30 : a3 = 0 := h30
        have h3 : KVB t y3 := h3
        have hfin : MSG y17 y3 := h3.msg (h17.msg hMst)
        clear h3 h17
        refine QT.ite (fun _ => ?_) (fun h => absurd h30 h)
        unfold f_X11_write_116 f_X11_write_118 f_X11_write_129
        refine QT.ite (fun _ => ?_) (fun h => absurd rfl h)
        refine QT.ite (fun _ => QT.ret ?_) (fun h => absurd rfl h)
        exact hfin
/-! what a reading leaves alone (wip/st5/frames9.py) -/
/-- a reading and its tree: the latest one's, the trial's -/
def BT (B0 T0 : Nat) : Prop := B0 = 89 ∧ T0 = 50 ∨ B0 = 92 ∧ (T0 = 62 ∨ T0 = 74)
/-- the class's: all but where it reads, its path, its sources and its tree; a failure stays one -/
def KRA (B0 T0 : Nat) (s σ : ST) : Prop := BT B0 T0 ∧ (∀ c, (c < B0 ∨ B0 + 2 < c) → (c < T0 ∨ T0 + 11 < c) → σ.1 c = s.1 c) ∧ ((∀ i, i ≠ 5 → i ≠ 7 → i ≠ 8 → i ≠ 10 → σ.1 B0 i = s.1 B0 i) ∧ ∀ i, i ≠ 1 → σ.1 T0 i = s.1 T0 i) ∧ (∀ c, c ≠ T0 + 6 → σ.2.1 c = s.2.1 c) ∧ σ.2.2 = s.2.2 ∧ (¬ s.1 B0 7 = 0 → ¬ σ.1 B0 7 = 0)
theorem KRA.rf {B0 T0 : Nat} {s : ST} (h : BT B0 T0) : KRA B0 T0 s s := ⟨h, fun _ _ _ => rfl, ⟨fun _ _ _ _ _ => rfl, fun _ _ => rfl⟩, fun _ _ => rfl, rfl, fun h => h⟩
theorem KRA.trans {B0 T0 : Nat} {s σ u : ST} (h : KRA B0 T0 s σ) (k : KRA B0 T0 σ u) : KRA B0 T0 s u := ⟨h.1, fun c a d => (k.2.1 c a d).trans (h.2.1 c a d), ⟨fun i a b c d => (k.2.2.1.1 i a b c d).trans (h.2.2.1.1 i a b c d), fun i a => (k.2.2.1.2 i a).trans (h.2.2.1.2 i a)⟩, fun c a => (k.2.2.2.1 c a).trans (h.2.2.2.1 c a), k.2.2.2.2.1.trans h.2.2.2.2.1, fun n => k.2.2.2.2.2 (h.2.2.2.2.2 n)⟩
theorem KRA.i {B0 T0 : Nat} {s σ : ST} {c i : Nat} {v : Int32} (hc : c = B0 ∧ (i = 5 ∨ i = 8 ∨ i = 10) ∨ B0 + 1 ≤ c ∧ c ≤ B0 + 2 ∨ c = T0 ∧ i = 1 ∨ T0 + 1 ≤ c ∧ c ≤ T0 + 11) (h : KRA B0 T0 s σ) : KRA B0 T0 s (stI σ c i v) := by
  obtain ⟨hb, h1, ⟨h2, h3⟩, h4, h5, h6⟩ := h
  have hb' := hb
  unfold BT at hb'
  refine ⟨hb, fun d a e => ?_, ⟨fun j j1 j2 j3 j4 => ?_, fun j j1 => ?_⟩, h4, h5, fun hn => ?_⟩
  · rw [stI_ne (by omega)]
    exact h1 d a e
  · by_cases e : c = B0
    · subst e
      rw [stI_at, upN (by omega)]
      exact h2 j j1 j2 j3 j4
    · rw [stI_ne (fun h => e h.symm)]
      exact h2 j j1 j2 j3 j4
  · by_cases e : c = T0
    · subst e
      rw [stI_at, upN (by omega)]
      exact h3 j j1
    · rw [stI_ne (fun h => e h.symm)]
      exact h3 j j1
  · by_cases e : c = B0
    · subst e
      rw [stI_at, upN (by omega)]
      exact h6 hn
    · rw [stI_ne (fun h => e h.symm)]
      exact h6 hn
theorem KRA.l {B0 T0 : Nat} {s σ : ST} {c i : Nat} {v : Int64} (hc : c = T0 + 6) (h : KRA B0 T0 s σ) : KRA B0 T0 s (stL σ c i v) := by
  refine ⟨h.1, h.2.1, h.2.2.1, fun d h1 => ?_, h.2.2.2.2⟩
  rw [stL_ne (by omega)]
  exact h.2.2.2.1 d h1
theorem KRA.f7 {B0 T0 : Nat} {s σ : ST} {v : Int32} (hz : σ.1 B0 7 = 0) (h : KRA B0 T0 s σ) : KRA B0 T0 s (stI σ B0 7 v) := by
  obtain ⟨hb, h1, ⟨h2, h3⟩, h4, h5, h6⟩ := h
  have hb' := hb
  unfold BT at hb'
  refine ⟨hb, fun d a e => ?_, ⟨fun j j1 j2 j3 j4 => ?_, fun j j1 => ?_⟩, h4, h5, fun hn => absurd hz (h6 hn)⟩
  · rw [stI_ne (by omega)]
    exact h1 d a e
  · rw [stI_at, upN j2]
    exact h2 j j1 j2 j3 j4
  · rw [stI_ne (by omega)]
    exact h3 j j1
theorem wr_X4_fail {B0 T0 : Nat} {s : ST} {b : Nat} {t : Nat} {p0 : Int32} {p1 : Int32} {σ : ST} (h_b : B0 = b) (h : KRA B0 T0 s σ) : PF st0 (KRA B0 T0 s) (f_X4_fail b t p0 p1 σ) := by
  subst h_b
  have k : σ.1 B0 7 = 0 → KRA B0 T0 s (stI (stI σ B0 7 p0) B0 8 p1) := fun hz => KRA.i (.inl ⟨rfl, .inr (.inl rfl)⟩) (h.f7 hz)
  unfold f_X4_fail f_X4_fail_29
  exact PF.ite (fun hz => PF.ite (fun _ => PF.ret0 (KRA.i (.inl ⟨rfl, .inr (.inr rfl)⟩) (k hz))) (fun _ => PF.ite (fun _ => PF.ret0 (KRA.i (.inl ⟨rfl, .inr (.inr rfl)⟩) (k hz))) (fun _ => PF.ret0 (k hz)))) (fun _ => PF.ret0 h)
theorem wr_X5_isType {B0 T0 : Nat} {s : ST} {b : Nat} {p0 : Int32} {σ : ST}   (h : KRA B0 T0 s σ) : PF st1 (KRA B0 T0 s) (f_X5_isType b p0 σ) := by
  unfold f_X5_isType
  exact (PF.ite (fun _ => (PF.ret1 h)) (fun _ => (PF.ite (fun _ => (PF.ret1 h)) (fun _ => (PF.ite (fun _ => (PF.ret1 h)) (fun _ => (PF.ret1 h)))))))
theorem wr_X5_sortOf {B0 T0 : Nat} {s : ST} {b : Nat} {p0 : Int32} {σ : ST}   (h : KRA B0 T0 s σ) : PF st1 (KRA B0 T0 s) (f_X5_sortOf b p0 σ) := by
  unfold f_X5_sortOf
  exact (PF.bnd (wr_X5_isType  h) (fun q1 hq1 => (PF.ite (fun _ => (PF.ret1 hq1)) (fun _ => (PF.ite (fun _ => (PF.ret1 hq1)) (fun _ => PF.none))))))
theorem wr_X5_innerOf {B0 T0 : Nat} {s : ST} {b : Nat} {p0 : Int32} {σ : ST}   (h : KRA B0 T0 s σ) : PF st1 (KRA B0 T0 s) (f_X5_innerOf b p0 σ) := by
  unfold f_X5_innerOf
  exact (PF.bnd (wr_X5_isType  h) (fun q1 hq1 => (PF.ite (fun _ => (PF.ret1 hq1)) (fun _ => (PF.ite (fun _ => (PF.ret1 hq1)) (fun _ => PF.none))))))
theorem wr_X5_isRecord {B0 T0 : Nat} {s : ST} {p0 : Int32} {σ : ST}   (h : KRA B0 T0 s σ) : PF st1 (KRA B0 T0 s) (f_X5_isRecord p0 σ) := by
  unfold f_X5_isRecord
  exact (PF.ite (fun _ => (PF.ret1 h)) (fun _ => (PF.ite (fun _ => (PF.ret1 h)) (fun _ => (PF.ret1 h)))))
theorem wr_X5_emptyHeight {B0 T0 : Nat} {s : ST} {b : Nat} {p0 : Int32} {σ : ST}   (h : KRA B0 T0 s σ) : PF st1 (KRA B0 T0 s) (f_X5_emptyHeight b p0 σ) := by
  unfold f_X5_emptyHeight
  exact (PF.bnd (wr_X5_sortOf  h) (fun q1 hq1 => (PF.ite (fun _ => (PF.ret1 hq1)) (fun _ => (PF.bnd (wr_X5_innerOf  hq1) (fun q3 hq3 => (PF.bnd (wr_X5_sortOf  hq3) (fun q5 hq5 => (PF.ite (fun _ => (PF.bnd (wr_X5_isRecord  hq5) (fun q7 hq7 => (PF.ite (fun _ => (PF.ret1 hq7)) (fun _ => (PF.ite (fun _ => (PF.ret1 hq7)) (fun _ => PF.none))))))) (fun _ => (PF.ret1 hq5)))))))))))
theorem wr_X4_isEmptyThere {B0 T0 : Nat} {s : ST} {b : Nat} {t : Nat} {p0 : Int32} {p1 : Int32} {σ : ST}   (h : KRA B0 T0 s σ) : PF st1 (KRA B0 T0 s) (f_X4_isEmptyThere b t p0 p1 σ) := by
  unfold f_X4_isEmptyThere
  exact (PF.bnd (wr_X5_emptyHeight  h) (fun q1 hq1 => (PF.ite (fun _ => (PF.ret1 hq1)) (fun _ => (PF.ite (fun _ => (PF.ret1 hq1)) (fun _ => (PF.ret1 hq1)))))))
theorem wr_X5_branchAfter {B0 T0 : Nat} {s : ST} {b : Nat} {p0 : Int32} {σ : ST}   (h : KRA B0 T0 s σ) : PF st1 (KRA B0 T0 s) (f_X5_branchAfter b p0 σ) := by
  unfold f_X5_branchAfter
  exact (PF.bnd (wr_X5_isType  h) (fun q1 hq1 => (PF.ite (fun _ => (PF.ret1 hq1)) (fun _ => (PF.ite (fun _ => (PF.ret1 hq1)) (fun _ => PF.none))))))
theorem wr_X5_branchesOf_20 {B0 T0 : Nat} {s : ST} {b : Nat}   : ∀ (n : Nat) (x1 : Int32) (x2 : Int32) (σ : ST), KRA B0 T0 s σ → PF st1 (KRA B0 T0 s) (f_X5_branchesOf_20 b n x1 x2 σ) := by
  intro n
  induction n with
  | zero => intro x1 x2 σ h; rw [f_X5_branchesOf_20]; exact PF.none
  | succ n ih =>
    intro x1 x2 σ h
    rw [f_X5_branchesOf_20]
    exact (PF.ite (fun _ => (PF.ret1 h)) (fun _ => (PF.ite (fun _ => (PF.ret1 h)) (fun _ => (PF.bnd (wr_X5_branchAfter  h) (fun q1 hq1 => (ih _ _ _ hq1)))))))
theorem wr_X5_branchesOf {B0 T0 : Nat} {s : ST} {b : Nat} {p0 : Int32} {σ : ST}   (h : KRA B0 T0 s σ) : PF st1 (KRA B0 T0 s) (f_X5_branchesOf b p0 σ) := by
  unfold f_X5_branchesOf
  exact (PF.bnd (wr_X5_sortOf  h) (fun q1 hq1 => (PF.ite (fun _ => (PF.bnd (wr_X5_innerOf  hq1) (fun q3 hq3 => (wr_X5_branchesOf_20  _ _ _ _ hq3)))) (fun _ => (PF.ret1 hq1)))))
theorem wr_X4_takeNumber_70 {B0 T0 : Nat} {s : ST} {b : Nat} {t : Nat} {x2 : Int64} {σ : ST}   (h : KRA B0 T0 s σ) : PF st1 (KRA B0 T0 s) (f_X4_takeNumber_70 b t x2 σ) := by
  unfold f_X4_takeNumber_70
  exact (PF.ite (fun _ => (PF.ret1 h)) (fun _ => (PF.ret1 h)))
theorem wr_X1_byteOf {B0 T0 : Nat} {s : ST} {p0 : Int32} {p1 : Int32} {σ : ST}   (h : KRA B0 T0 s σ) : PF st1 (KRA B0 T0 s) (f_X1_byteOf p0 p1 σ) := by
  unfold f_X1_byteOf
  exact (PF.ite (fun _ => (PF.ret1 h)) (fun _ => (PF.ite (fun _ => (PF.ret1 h)) (fun _ => (PF.ite (fun _ => (PF.ret1 h)) (fun _ => PF.none))))))
theorem wr_X4_takeByte {B0 T0 : Nat} {s : ST} {b : Nat} {t : Nat} {σ : ST}  (h_b : B0 = b) (h : KRA B0 T0 s σ) : PF st1 (KRA B0 T0 s) (f_X4_takeByte b t σ) := by
  unfold f_X4_takeByte
  exact (PF.ite (fun _ => (PF.ite (fun _ => (PF.bnd (wr_X1_byteOf  h) (fun q1 hq1 => (PF.ret1 (KRA.i (by omega) hq1))))) (fun _ => (PF.bnd (wr_X4_fail (by omega) h) (fun q3 hq3 => (PF.ret1 hq3)))))) (fun _ => (PF.ret1 h)))
theorem wr_X4_takeNumber_38 {B0 T0 : Nat} {s : ST} {k5 : Int32 → Int64 → Int32 → ST → Option (Int64 × ST)} {b : Nat} {t : Nat} {x1 : Int32} {x2 : Int64} {x4 : Int32} {x5 : Int32} {σ : ST} (h_k5 : ∀ (x1 : Int32) (x2 : Int64) (x3 : Int32) (σ : ST), KRA B0 T0 s σ → PF st1 (KRA B0 T0 s) (k5 x1 x2 x3 σ))  (h : KRA B0 T0 s σ) : PF st1 (KRA B0 T0 s) (f_X4_takeNumber_38 k5 b t x1 x2 x4 x5 σ) := by
  unfold f_X4_takeNumber_38
  exact (PF.ite (fun _ => (h_k5 _ _ _ _ h)) (fun _ => (wr_X4_takeNumber_70  h)))
theorem wr_X4_takeNumber_5 {B0 T0 : Nat} {s : ST} {b : Nat} {t : Nat}  (h_b : B0 = b) : ∀ (n : Nat) (x1 : Int32) (x2 : Int64) (x3 : Int32) (σ : ST), KRA B0 T0 s σ → PF st1 (KRA B0 T0 s) (f_X4_takeNumber_5 b t n x1 x2 x3 σ) := by
  intro n
  induction n with
  | zero => intro x1 x2 x3 σ h; rw [f_X4_takeNumber_5]; exact PF.none
  | succ n ih =>
    intro x1 x2 x3 σ h
    rw [f_X4_takeNumber_5]
    exact (PF.ite (fun _ => (wr_X4_takeNumber_70  h)) (fun _ => (PF.bnd (wr_X4_takeByte (by omega) h) (fun q1 hq1 => (PF.ite (fun _ => (PF.ite (fun _ => (wr_X4_takeNumber_38 ih hq1)) (fun _ => (PF.bnd (wr_X4_fail (by omega) hq1) (fun q3 hq3 => (wr_X4_takeNumber_38 ih hq3)))))) (fun _ => (wr_X4_takeNumber_38 ih hq1)))))))
theorem wr_X4_takeNumber {B0 T0 : Nat} {s : ST} {b : Nat} {t : Nat} {p0 : Int32} {σ : ST}  (h_b : B0 = b) (h : KRA B0 T0 s σ) : PF st1 (KRA B0 T0 s) (f_X4_takeNumber b t p0 σ) := by
  unfold f_X4_takeNumber
  exact (wr_X4_takeNumber_5 (by omega) _ _ _ _ _ h)
theorem wr_X4_takeCount_26 {B0 T0 : Nat} {s : ST} {b : Nat} {t : Nat} {x3 : Int64} {σ : ST}   (h : KRA B0 T0 s σ) : PF st1 (KRA B0 T0 s) (f_X4_takeCount_26 b t x3 σ) := by
  unfold f_X4_takeCount_26
  exact (PF.ite (fun _ => (PF.ret1 h)) (fun _ => (PF.ret1 h)))
theorem wr_X4_takeCount_19 {B0 T0 : Nat} {s : ST} {b : Nat} {t : Nat} {x1 : Int32} {x3 : Int64} {σ : ST}  (h_b : B0 = b) (h : KRA B0 T0 s σ) : PF st1 (KRA B0 T0 s) (f_X4_takeCount_19 b t x1 x3 σ) := by
  unfold f_X4_takeCount_19
  exact (PF.bnd (wr_X4_fail (by omega) h) (fun q1 hq1 => (wr_X4_takeCount_26  hq1)))
theorem wr_X4_takeCount {B0 T0 : Nat} {s : ST} {b : Nat} {t : Nat} {p0 : Int32} {p1 : Int32} {σ : ST}  (h_b : B0 = b) (h : KRA B0 T0 s σ) : PF st1 (KRA B0 T0 s) (f_X4_takeCount b t p0 p1 σ) := by
  unfold f_X4_takeCount
  exact (PF.bnd (wr_X4_takeNumber (by omega) h) (fun q1 hq1 => (PF.ite (fun _ => (wr_X4_takeCount_19 (by omega) hq1)) (fun _ => (PF.ite (fun _ => (wr_X4_takeCount_26  hq1)) (fun _ => (wr_X4_takeCount_19 (by omega) hq1)))))))
theorem wr_X5_branchOf_23 {B0 T0 : Nat} {s : ST} {b : Nat}   : ∀ (n : Nat) (x1 : Int32) (x2 : Int32) (x3 : Int32) (σ : ST), KRA B0 T0 s σ → PF st1 (KRA B0 T0 s) (f_X5_branchOf_23 b n x1 x2 x3 σ) := by
  intro n
  induction n with
  | zero => intro x1 x2 x3 σ h; rw [f_X5_branchOf_23]; exact PF.none
  | succ n ih =>
    intro x1 x2 x3 σ h
    rw [f_X5_branchOf_23]
    exact (PF.ite (fun _ => (PF.ret1 h)) (fun _ => (PF.ite (fun _ => (PF.ret1 h)) (fun _ => (PF.bnd (wr_X5_branchAfter  h) (fun q1 hq1 => (ih _ _ _ _ hq1)))))))
theorem wr_X5_branchOf_19 {B0 T0 : Nat} {s : ST} {b : Nat} {x2 : Int32} {y0 : Int32} {σ : ST}   (h : KRA B0 T0 s σ) : PF st1 (KRA B0 T0 s) (f_X5_branchOf_19 b x2 y0 σ) := by
  unfold f_X5_branchOf_19
  exact (wr_X5_branchOf_23  _ _ _ _ _ h)
theorem wr_X5_branchOf {B0 T0 : Nat} {s : ST} {b : Nat} {p0 : Int32} {p1 : Int32} {σ : ST}   (h : KRA B0 T0 s σ) : PF st1 (KRA B0 T0 s) (f_X5_branchOf b p0 p1 σ) := by
  unfold f_X5_branchOf
  exact (PF.bnd (wr_X5_sortOf  h) (fun q1 hq1 => (PF.ite (fun _ => (PF.bnd (wr_X5_innerOf  hq1) (fun q3 hq3 => (wr_X5_branchOf_19  hq3)))) (fun _ => (wr_X5_branchOf_19  hq1)))))
theorem wr_X4_step_26 {B0 T0 : Nat} {s : ST} {b : Nat} {t : Nat} {σ : ST}  (h_b : B0 = b) (h : KRA B0 T0 s σ) : PF st0 (KRA B0 T0 s) (f_X4_step_26 b t σ) := by
  unfold f_X4_step_26
  exact (PF.ret0 (KRA.i (by omega) h))
theorem wr_X4_step {B0 T0 : Nat} {s : ST} {b : Nat} {t : Nat} {p0 : Int32} {σ : ST}  (h_b : B0 = b) (h : KRA B0 T0 s σ) : PF st0 (KRA B0 T0 s) (f_X4_step b t p0 σ) := by
  unfold f_X4_step
  exact (PF.ite (fun _ => (wr_X4_step_26 (by omega) h)) (fun _ => (PF.ite (fun _ => (wr_X4_step_26 (by omega) h)) (fun _ => (PF.ite (fun _ => (wr_X4_step_26 (by omega) (KRA.i (by omega) h))) (fun _ => PF.none))))))
theorem wr_X4_stepBack {B0 T0 : Nat} {s : ST} {b : Nat} {t : Nat} {σ : ST}  (h_b : B0 = b) (h : KRA B0 T0 s σ) : PF st0 (KRA B0 T0 s) (f_X4_stepBack b t σ) := by
  unfold f_X4_stepBack
  exact (PF.ite (fun _ => (PF.ret0 (KRA.i (by omega) h))) (fun _ => (PF.ret0 h)))
theorem wr_X4_take_140 {B0 T0 : Nat} {s : ST} {r_X4_take : Nat → Nat → Int32 → Int32 → Int32 → Int32 → Int32 → ST → Option (ST)} {r_X4_takeField : Nat → Nat → Int32 → Int32 → Int32 → Int32 → Int32 → ST → Option (ST)} {r_X4_takeList : Nat → Nat → Int32 → Int32 → Int32 → Int32 → Int32 → ST → Option (ST)} {r_X4_takeOwn : Nat → Nat → Int32 → Int32 → Int32 → Int32 → Int32 → ST → Option (ST)} {r_X4_takeRecord : Nat → Nat → Int32 → Int32 → Int32 → Int32 → Int32 → ST → Option (ST)} {b : Nat} {t : Nat} {x2 : Int32} {x3 : Int32} {x4 : Int32} {x5 : Int32} {x8 : Int32} {σ : ST} (h_r_X4_take : ∀ (x1 : Nat) (x2 : Nat) (x3 : Int32) (x4 : Int32) (x5 : Int32) (x6 : Int32) (x7 : Int32) (σ : ST), B0 = x1 → T0 = x2 → KRA B0 T0 s σ → PF st0 (KRA B0 T0 s) (r_X4_take x1 x2 x3 x4 x5 x6 x7 σ)) (h_r_X4_takeField : ∀ (x1 : Nat) (x2 : Nat) (x3 : Int32) (x4 : Int32) (x5 : Int32) (x6 : Int32) (x7 : Int32) (σ : ST), B0 = x1 → T0 = x2 → KRA B0 T0 s σ → PF st0 (KRA B0 T0 s) (r_X4_takeField x1 x2 x3 x4 x5 x6 x7 σ)) (h_r_X4_takeList : ∀ (x1 : Nat) (x2 : Nat) (x3 : Int32) (x4 : Int32) (x5 : Int32) (x6 : Int32) (x7 : Int32) (σ : ST), B0 = x1 → T0 = x2 → KRA B0 T0 s σ → PF st0 (KRA B0 T0 s) (r_X4_takeList x1 x2 x3 x4 x5 x6 x7 σ)) (h_r_X4_takeOwn : ∀ (x1 : Nat) (x2 : Nat) (x3 : Int32) (x4 : Int32) (x5 : Int32) (x6 : Int32) (x7 : Int32) (σ : ST), B0 = x1 → T0 = x2 → KRA B0 T0 s σ → PF st0 (KRA B0 T0 s) (r_X4_takeOwn x1 x2 x3 x4 x5 x6 x7 σ)) (h_r_X4_takeRecord : ∀ (x1 : Nat) (x2 : Nat) (x3 : Int32) (x4 : Int32) (x5 : Int32) (x6 : Int32) (x7 : Int32) (σ : ST), B0 = x1 → T0 = x2 → KRA B0 T0 s σ → PF st0 (KRA B0 T0 s) (r_X4_takeRecord x1 x2 x3 x4 x5 x6 x7 σ)) (h_b : B0 = b) (h_t : T0 = t) (h : KRA B0 T0 s σ) : PF st0 (KRA B0 T0 s) (f_X4_take_140 r_X4_take r_X4_takeField r_X4_takeList r_X4_takeOwn r_X4_takeRecord b t x2 x3 x4 x5 x8 σ) := by
  unfold f_X4_take_140
  exact (PF.bnd (h_r_X4_takeOwn _ _ _ _ _ _ _ _ (by omega) (by omega) h) (fun q1 hq1 => (PF.bnd (wr_X4_stepBack (by omega) hq1) (fun q3 hq3 => (PF.ret0 hq3)))))
theorem wr_X0_chosenWithin_79 {B0 T0 : Nat} {s : ST} {r_X0_chosenWithin : Int32 → Int32 → Int32 → ST → Option (Int32 × ST)} {r_X0_fitsWithin : Int32 → Int32 → Int32 → ST → Option (Int32 × ST)} {k16 : Int32 → Int32 → Int32 → Int32 → Int32 → ST → Option (Int32 × ST)} {x1 : Int32} {x3 : Int32} {x4 : Int32} {x5 : Int32} {x6 : Int32} {σ : ST} (h_r_X0_chosenWithin : ∀ (x1 : Int32) (x2 : Int32) (x3 : Int32) (σ : ST), KRA B0 T0 s σ → PF st1 (KRA B0 T0 s) (r_X0_chosenWithin x1 x2 x3 σ)) (h_r_X0_fitsWithin : ∀ (x1 : Int32) (x2 : Int32) (x3 : Int32) (σ : ST), KRA B0 T0 s σ → PF st1 (KRA B0 T0 s) (r_X0_fitsWithin x1 x2 x3 σ)) (h_k16 : ∀ (x1 : Int32) (x2 : Int32) (x3 : Int32) (x4 : Int32) (x5 : Int32) (σ : ST), KRA B0 T0 s σ → PF st1 (KRA B0 T0 s) (k16 x1 x2 x3 x4 x5 σ))  (h : KRA B0 T0 s σ) : PF st1 (KRA B0 T0 s) (f_X0_chosenWithin_79 r_X0_chosenWithin r_X0_fitsWithin k16 x1 x3 x4 x5 x6 σ) := by
  unfold f_X0_chosenWithin_79
  exact (PF.bnd (wr_X5_branchAfter  h) (fun q1 hq1 => (h_k16 _ _ _ _ _ _ hq1)))
theorem wr_X0_chosenWithin_77 {B0 T0 : Nat} {s : ST} {r_X0_chosenWithin : Int32 → Int32 → Int32 → ST → Option (Int32 × ST)} {r_X0_fitsWithin : Int32 → Int32 → Int32 → ST → Option (Int32 × ST)} {k16 : Int32 → Int32 → Int32 → Int32 → Int32 → ST → Option (Int32 × ST)} {x1 : Int32} {x3 : Int32} {x5 : Int32} {x6 : Int32} {y0 : Int32} {σ : ST} (h_r_X0_chosenWithin : ∀ (x1 : Int32) (x2 : Int32) (x3 : Int32) (σ : ST), KRA B0 T0 s σ → PF st1 (KRA B0 T0 s) (r_X0_chosenWithin x1 x2 x3 σ)) (h_r_X0_fitsWithin : ∀ (x1 : Int32) (x2 : Int32) (x3 : Int32) (σ : ST), KRA B0 T0 s σ → PF st1 (KRA B0 T0 s) (r_X0_fitsWithin x1 x2 x3 σ)) (h_k16 : ∀ (x1 : Int32) (x2 : Int32) (x3 : Int32) (x4 : Int32) (x5 : Int32) (σ : ST), KRA B0 T0 s σ → PF st1 (KRA B0 T0 s) (k16 x1 x2 x3 x4 x5 σ))  (h : KRA B0 T0 s σ) : PF st1 (KRA B0 T0 s) (f_X0_chosenWithin_77 r_X0_chosenWithin r_X0_fitsWithin k16 x1 x3 x5 x6 y0 σ) := by
  unfold f_X0_chosenWithin_77
  exact (wr_X0_chosenWithin_79 h_r_X0_chosenWithin h_r_X0_fitsWithin h_k16 h)
theorem wr_X0_chosenWithin_16 {B0 T0 : Nat} {s : ST} {r_X0_chosenWithin : Int32 → Int32 → Int32 → ST → Option (Int32 × ST)} {r_X0_fitsWithin : Int32 → Int32 → Int32 → ST → Option (Int32 × ST)} (h_r_X0_chosenWithin : ∀ (x1 : Int32) (x2 : Int32) (x3 : Int32) (σ : ST), KRA B0 T0 s σ → PF st1 (KRA B0 T0 s) (r_X0_chosenWithin x1 x2 x3 σ)) (h_r_X0_fitsWithin : ∀ (x1 : Int32) (x2 : Int32) (x3 : Int32) (σ : ST), KRA B0 T0 s σ → PF st1 (KRA B0 T0 s) (r_X0_fitsWithin x1 x2 x3 σ))  : ∀ (n : Nat) (x1 : Int32) (x2 : Int32) (x3 : Int32) (x4 : Int32) (x5 : Int32) (σ : ST), KRA B0 T0 s σ → PF st1 (KRA B0 T0 s) (f_X0_chosenWithin_16 r_X0_chosenWithin r_X0_fitsWithin n x1 x2 x3 x4 x5 σ) := by
  intro n
  induction n with
  | zero => intro x1 x2 x3 x4 x5 σ h; rw [f_X0_chosenWithin_16]; exact PF.none
  | succ n ih =>
    intro x1 x2 x3 x4 x5 σ h
    rw [f_X0_chosenWithin_16]
    exact (PF.ite (fun _ => (PF.ret1 h)) (fun _ => (PF.ite (fun _ => (PF.ret1 h)) (fun _ => (PF.bnd (h_r_X0_fitsWithin _ _ _ _ h) (fun q1 hq1 => (PF.ite (fun _ => (wr_X0_chosenWithin_79 h_r_X0_chosenWithin h_r_X0_fitsWithin ih hq1)) (fun _ => (PF.bnd (wr_X5_sortOf  hq1) (fun q3 hq3 => (PF.bnd (wr_X5_sortOf  hq3) (fun q5 hq5 => (PF.ite (fun _ => (PF.ret1 hq5)) (fun _ => (PF.ite (fun _ => (wr_X0_chosenWithin_77 h_r_X0_chosenWithin h_r_X0_fitsWithin ih hq5)) (fun _ => (wr_X0_chosenWithin_77 h_r_X0_chosenWithin h_r_X0_fitsWithin ih hq5)))))))))))))))))
theorem wr_X0_chosenWithin {B0 T0 : Nat} {s : ST} {r_X0_chosenWithin : Int32 → Int32 → Int32 → ST → Option (Int32 × ST)} {r_X0_fitsWithin : Int32 → Int32 → Int32 → ST → Option (Int32 × ST)} {p0 : Int32} {p1 : Int32} {p2 : Int32} {σ : ST} (h_r_X0_chosenWithin : ∀ (x1 : Int32) (x2 : Int32) (x3 : Int32) (σ : ST), KRA B0 T0 s σ → PF st1 (KRA B0 T0 s) (r_X0_chosenWithin x1 x2 x3 σ)) (h_r_X0_fitsWithin : ∀ (x1 : Int32) (x2 : Int32) (x3 : Int32) (σ : ST), KRA B0 T0 s σ → PF st1 (KRA B0 T0 s) (r_X0_fitsWithin x1 x2 x3 σ))  (h : KRA B0 T0 s σ) : PF st1 (KRA B0 T0 s) (f_X0_chosenWithin r_X0_chosenWithin r_X0_fitsWithin p0 p1 p2 σ) := by
  unfold f_X0_chosenWithin
  exact (PF.bnd (wr_X5_innerOf  h) (fun q1 hq1 => (wr_X0_chosenWithin_16 h_r_X0_chosenWithin h_r_X0_fitsWithin _ _ _ _ _ _ _ hq1)))
theorem wr_X0_fitsWithin_48 {B0 T0 : Nat} {s : ST} {r_X0_chosenWithin : Int32 → Int32 → Int32 → ST → Option (Int32 × ST)} {r_X0_fitsWithin : Int32 → Int32 → Int32 → ST → Option (Int32 × ST)} (h_r_X0_chosenWithin : ∀ (x1 : Int32) (x2 : Int32) (x3 : Int32) (σ : ST), KRA B0 T0 s σ → PF st1 (KRA B0 T0 s) (r_X0_chosenWithin x1 x2 x3 σ)) (h_r_X0_fitsWithin : ∀ (x1 : Int32) (x2 : Int32) (x3 : Int32) (σ : ST), KRA B0 T0 s σ → PF st1 (KRA B0 T0 s) (r_X0_fitsWithin x1 x2 x3 σ))  : ∀ (n : Nat) (x1 : Int32) (x2 : Int32) (x3 : Int32) (x4 : Int32) (σ : ST), KRA B0 T0 s σ → PF st1 (KRA B0 T0 s) (f_X0_fitsWithin_48 r_X0_chosenWithin r_X0_fitsWithin n x1 x2 x3 x4 σ) := by
  intro n
  induction n with
  | zero => intro x1 x2 x3 x4 σ h; rw [f_X0_fitsWithin_48]; exact PF.none
  | succ n ih =>
    intro x1 x2 x3 x4 σ h
    rw [f_X0_fitsWithin_48]
    exact (PF.ite (fun _ => (PF.ret1 h)) (fun _ => (PF.ite (fun _ => (PF.ret1 h)) (fun _ => (PF.bnd (h_r_X0_fitsWithin _ _ _ _ h) (fun q1 hq1 => (PF.ite (fun _ => (PF.bnd (wr_X5_branchAfter  hq1) (fun q3 hq3 => (ih _ _ _ _ _ hq3)))) (fun _ => (PF.ret1 hq1)))))))))
theorem wr_J9_floorMod_7cf53 {B0 T0 : Nat} {s : ST} {p0 : Int32} {p1 : Int32} {σ : ST}   (h : KRA B0 T0 s σ) : PF st1 (KRA B0 T0 s) (f_J9_floorMod_7cf53 p0 p1 σ) := by
  unfold f_J9_floorMod_7cf53
  exact (PF.ite (fun _ => (PF.ite (fun _ => (PF.ret1 h)) (fun _ => (PF.ite (fun _ => (PF.ret1 h)) (fun _ => (PF.ret1 h)))))) (fun _ => PF.none))
theorem wr_X0_bitOf {B0 T0 : Nat} {s : ST} {p0 : Int32} {p1 : Int32} {σ : ST}   (h : KRA B0 T0 s σ) : PF st1 (KRA B0 T0 s) (f_X0_bitOf p0 p1 σ) := by
  unfold f_X0_bitOf
  exact (PF.bnd (wr_J9_floorMod_7cf53  h) (fun q1 hq1 => (PF.bnd (wr_J9_floorMod_7cf53  hq1) (fun q3 hq3 => (PF.ret1 hq3)))))
theorem wr_X0_plainFits_41 {B0 T0 : Nat} {s : ST}  {σ : ST}   (h : KRA B0 T0 s σ) : PF st1 (KRA B0 T0 s) (f_X0_plainFits_41 σ) := by
  unfold f_X0_plainFits_41
  exact (PF.ret1 h)
theorem wr_X0_plainFits_31 {B0 T0 : Nat} {s : ST} {x0 : Int32} {x1 : Int32} {σ : ST}   (h : KRA B0 T0 s σ) : PF st1 (KRA B0 T0 s) (f_X0_plainFits_31 x0 x1 σ) := by
  unfold f_X0_plainFits_31
  exact (PF.ite (fun _ => (PF.ite (fun _ => (wr_X0_plainFits_41  h)) (fun _ => (PF.ret1 h)))) (fun _ => (PF.ret1 h)))
theorem wr_X0_plainFits {B0 T0 : Nat} {s : ST} {p0 : Int32} {p1 : Int32} {σ : ST}   (h : KRA B0 T0 s σ) : PF st1 (KRA B0 T0 s) (f_X0_plainFits p0 p1 σ) := by
  unfold f_X0_plainFits
  exact (PF.ite (fun _ => (PF.ret1 h)) (fun _ => (PF.ite (fun _ => (PF.ite (fun _ => (wr_X0_plainFits_41  h)) (fun _ => (PF.ite (fun _ => (PF.ite (fun _ => (wr_X0_plainFits_41  h)) (fun _ => (PF.ite (fun _ => (wr_X0_plainFits_41  h)) (fun _ => (wr_X0_plainFits_31  h)))))) (fun _ => (wr_X0_plainFits_31  h)))))) (fun _ => (PF.ret1 h)))))
theorem wr_X0_fitsWithin_207 {B0 T0 : Nat} {s : ST} {r_X0_chosenWithin : Int32 → Int32 → Int32 → ST → Option (Int32 × ST)} {r_X0_fitsWithin : Int32 → Int32 → Int32 → ST → Option (Int32 × ST)} {x4 : Int32} {x5 : Int32} {σ : ST} (h_r_X0_chosenWithin : ∀ (x1 : Int32) (x2 : Int32) (x3 : Int32) (σ : ST), KRA B0 T0 s σ → PF st1 (KRA B0 T0 s) (r_X0_chosenWithin x1 x2 x3 σ)) (h_r_X0_fitsWithin : ∀ (x1 : Int32) (x2 : Int32) (x3 : Int32) (σ : ST), KRA B0 T0 s σ → PF st1 (KRA B0 T0 s) (r_X0_fitsWithin x1 x2 x3 σ))  (h : KRA B0 T0 s σ) : PF st1 (KRA B0 T0 s) (f_X0_fitsWithin_207 r_X0_chosenWithin r_X0_fitsWithin x4 x5 σ) := by
  unfold f_X0_fitsWithin_207
  exact (PF.bnd (wr_X0_plainFits  h) (fun q1 hq1 => (PF.ite (fun _ => (PF.ret1 hq1)) (fun _ => PF.none))))
theorem wr_X0_fitsWithin_158 {B0 T0 : Nat} {s : ST} {r_X0_chosenWithin : Int32 → Int32 → Int32 → ST → Option (Int32 × ST)} {r_X0_fitsWithin : Int32 → Int32 → Int32 → ST → Option (Int32 × ST)} {x1 : Int32} {x2 : Int32} {x4 : Int32} {x5 : Int32} {σ : ST} (h_r_X0_chosenWithin : ∀ (x1 : Int32) (x2 : Int32) (x3 : Int32) (σ : ST), KRA B0 T0 s σ → PF st1 (KRA B0 T0 s) (r_X0_chosenWithin x1 x2 x3 σ)) (h_r_X0_fitsWithin : ∀ (x1 : Int32) (x2 : Int32) (x3 : Int32) (σ : ST), KRA B0 T0 s σ → PF st1 (KRA B0 T0 s) (r_X0_fitsWithin x1 x2 x3 σ))  (h : KRA B0 T0 s σ) : PF st1 (KRA B0 T0 s) (f_X0_fitsWithin_158 r_X0_chosenWithin r_X0_fitsWithin x1 x2 x4 x5 σ) := by
  unfold f_X0_fitsWithin_158
  exact (PF.ite (fun _ => (PF.ite (fun _ => (PF.bnd (wr_X5_innerOf  h) (fun q1 hq1 => (PF.bnd (wr_X5_innerOf  hq1) (fun q3 hq3 => (PF.bnd (wr_X0_bitOf  hq3) (fun q5 hq5 => (PF.ite (fun _ => (PF.ret1 hq5)) (fun _ => (PF.ret1 hq5)))))))))) (fun _ => (wr_X0_fitsWithin_207 h_r_X0_chosenWithin h_r_X0_fitsWithin h)))) (fun _ => (wr_X0_fitsWithin_207 h_r_X0_chosenWithin h_r_X0_fitsWithin h)))
theorem wr_X0_fitsWithin {B0 T0 : Nat} {s : ST} {r_X0_chosenWithin : Int32 → Int32 → Int32 → ST → Option (Int32 × ST)} {r_X0_fitsWithin : Int32 → Int32 → Int32 → ST → Option (Int32 × ST)} {p0 : Int32} {p1 : Int32} {p2 : Int32} {σ : ST} (h_r_X0_chosenWithin : ∀ (x1 : Int32) (x2 : Int32) (x3 : Int32) (σ : ST), KRA B0 T0 s σ → PF st1 (KRA B0 T0 s) (r_X0_chosenWithin x1 x2 x3 σ)) (h_r_X0_fitsWithin : ∀ (x1 : Int32) (x2 : Int32) (x3 : Int32) (σ : ST), KRA B0 T0 s σ → PF st1 (KRA B0 T0 s) (r_X0_fitsWithin x1 x2 x3 σ))  (h : KRA B0 T0 s σ) : PF st1 (KRA B0 T0 s) (f_X0_fitsWithin r_X0_chosenWithin r_X0_fitsWithin p0 p1 p2 σ) := by
  unfold f_X0_fitsWithin
  exact (PF.ite (fun _ => (PF.bnd (wr_X5_sortOf  h) (fun q1 hq1 => (PF.bnd (wr_X5_sortOf  hq1) (fun q3 hq3 => (PF.ite (fun _ => (PF.bnd (wr_X5_innerOf  hq3) (fun q13 hq13 => (wr_X0_fitsWithin_48 h_r_X0_chosenWithin h_r_X0_fitsWithin _ _ _ _ _ _ hq13)))) (fun _ => (PF.ite (fun _ => (PF.bnd (h_r_X0_chosenWithin _ _ _ _ hq3) (fun q11 hq11 => (PF.ite (fun _ => (PF.ret1 hq11)) (fun _ => (PF.ret1 hq11)))))) (fun _ => (PF.ite (fun _ => (PF.ite (fun _ => (PF.bnd (wr_X5_innerOf  hq3) (fun q5 hq5 => (PF.bnd (wr_X5_innerOf  hq5) (fun q7 hq7 => (PF.bnd (h_r_X0_fitsWithin _ _ _ _ hq7) (fun q9 hq9 => (PF.ite (fun _ => (PF.ret1 hq9)) (fun _ => PF.none))))))))) (fun _ => (wr_X0_fitsWithin_158 h_r_X0_chosenWithin h_r_X0_fitsWithin hq3)))) (fun _ => (wr_X0_fitsWithin_158 h_r_X0_chosenWithin h_r_X0_fitsWithin hq3)))))))))))) (fun _ => (PF.ret1 h)))
theorem wrR_X0_chosenWithin {B0 T0 : Nat} {s : ST} : ∀ n : Nat, (∀ (p0 : Int32) (p1 : Int32) (p2 : Int32) (σ : ST), KRA B0 T0 s σ → PF st1 (KRA B0 T0 s) ((R_X0_chosenWithin n).1 p0 p1 p2 σ)) ∧ (∀ (p0 : Int32) (p1 : Int32) (p2 : Int32) (σ : ST), KRA B0 T0 s σ → PF st1 (KRA B0 T0 s) ((R_X0_chosenWithin n).2 p0 p1 p2 σ)) := by
  intro n
  induction n with
  | zero => exact ⟨fun _ _ _ _ _ => PF.none, fun _ _ _ _ _ => PF.none⟩
  | succ n ih => exact ⟨fun _ _ _ _ h => wr_X0_chosenWithin (ih.1) (ih.2)  h, fun _ _ _ _ h => wr_X0_fitsWithin (ih.1) (ih.2)  h⟩
theorem wr_T_X0_fitsWithin {B0 T0 : Nat} {s : ST} {p0 : Int32} {p1 : Int32} {p2 : Int32} {σ : ST} (h : KRA B0 T0 s σ) : PF st1 (KRA B0 T0 s) (f_T_X0_fitsWithin p0 p1 p2 σ) := (wrR_X0_chosenWithin FR).2 _ _ _ _  h
theorem wr_X0_fits {B0 T0 : Nat} {s : ST} {p0 : Int32} {p1 : Int32} {σ : ST}   (h : KRA B0 T0 s σ) : PF st1 (KRA B0 T0 s) (f_X0_fits p0 p1 σ) := by
  unfold f_X0_fits
  exact (PF.bnd (wr_T_X0_fitsWithin h) (fun q1 hq1 => (PF.ite (fun _ => (PF.ret1 hq1)) (fun _ => PF.none))))
theorem wr_X4_take_34 {B0 T0 : Nat} {s : ST} {r_X4_take : Nat → Nat → Int32 → Int32 → Int32 → Int32 → Int32 → ST → Option (ST)} {r_X4_takeField : Nat → Nat → Int32 → Int32 → Int32 → Int32 → Int32 → ST → Option (ST)} {r_X4_takeList : Nat → Nat → Int32 → Int32 → Int32 → Int32 → Int32 → ST → Option (ST)} {r_X4_takeOwn : Nat → Nat → Int32 → Int32 → Int32 → Int32 → Int32 → ST → Option (ST)} {r_X4_takeRecord : Nat → Nat → Int32 → Int32 → Int32 → Int32 → Int32 → ST → Option (ST)} {b : Nat} {t : Nat} {x1 : Int32} {x2 : Int32} {x3 : Int32} {x4 : Int32} {x5 : Int32} {σ : ST} (h_r_X4_take : ∀ (x1 : Nat) (x2 : Nat) (x3 : Int32) (x4 : Int32) (x5 : Int32) (x6 : Int32) (x7 : Int32) (σ : ST), B0 = x1 → T0 = x2 → KRA B0 T0 s σ → PF st0 (KRA B0 T0 s) (r_X4_take x1 x2 x3 x4 x5 x6 x7 σ)) (h_r_X4_takeField : ∀ (x1 : Nat) (x2 : Nat) (x3 : Int32) (x4 : Int32) (x5 : Int32) (x6 : Int32) (x7 : Int32) (σ : ST), B0 = x1 → T0 = x2 → KRA B0 T0 s σ → PF st0 (KRA B0 T0 s) (r_X4_takeField x1 x2 x3 x4 x5 x6 x7 σ)) (h_r_X4_takeList : ∀ (x1 : Nat) (x2 : Nat) (x3 : Int32) (x4 : Int32) (x5 : Int32) (x6 : Int32) (x7 : Int32) (σ : ST), B0 = x1 → T0 = x2 → KRA B0 T0 s σ → PF st0 (KRA B0 T0 s) (r_X4_takeList x1 x2 x3 x4 x5 x6 x7 σ)) (h_r_X4_takeOwn : ∀ (x1 : Nat) (x2 : Nat) (x3 : Int32) (x4 : Int32) (x5 : Int32) (x6 : Int32) (x7 : Int32) (σ : ST), B0 = x1 → T0 = x2 → KRA B0 T0 s σ → PF st0 (KRA B0 T0 s) (r_X4_takeOwn x1 x2 x3 x4 x5 x6 x7 σ)) (h_r_X4_takeRecord : ∀ (x1 : Nat) (x2 : Nat) (x3 : Int32) (x4 : Int32) (x5 : Int32) (x6 : Int32) (x7 : Int32) (σ : ST), B0 = x1 → T0 = x2 → KRA B0 T0 s σ → PF st0 (KRA B0 T0 s) (r_X4_takeRecord x1 x2 x3 x4 x5 x6 x7 σ)) (h_b : B0 = b) (h_t : T0 = t) (h : KRA B0 T0 s σ) : PF st0 (KRA B0 T0 s) (f_X4_take_34 r_X4_take r_X4_takeField r_X4_takeList r_X4_takeOwn r_X4_takeRecord b t x1 x2 x3 x4 x5 σ) := by
  unfold f_X4_take_34
  exact (PF.bnd (wr_X5_sortOf  h) (fun q1 hq1 => (PF.ite (fun _ => (PF.bnd (wr_X5_branchesOf  hq1) (fun q3 hq3 => (PF.bnd (wr_X4_takeCount (by omega) hq3) (fun q5 hq5 => (PF.ite (fun _ => (PF.bnd (wr_X5_branchOf  hq5) (fun q7 hq7 => (PF.bnd (wr_X4_step (by omega) hq7) (fun q9 hq9 => (PF.ite (fun _ => (wr_X4_take_140 h_r_X4_take h_r_X4_takeField h_r_X4_takeList h_r_X4_takeOwn h_r_X4_takeRecord (by omega) (by omega) hq9)) (fun _ => (PF.bnd (wr_X0_fits  hq9) (fun q11 hq11 => (PF.ite (fun _ => (PF.bnd (wr_X4_fail (by omega) hq11) (fun q13 hq13 => (PF.ret0 hq13)))) (fun _ => (wr_X4_take_140 h_r_X4_take h_r_X4_takeField h_r_X4_takeList h_r_X4_takeOwn h_r_X4_takeRecord (by omega) (by omega) hq11)))))))))))) (fun _ => (PF.ret0 hq5)))))))) (fun _ => (PF.bnd (h_r_X4_takeOwn _ _ _ _ _ _ _ _ (by omega) (by omega) hq1) (fun q15 hq15 => (PF.ret0 hq15)))))))
theorem wr_X4_take {B0 T0 : Nat} {s : ST} {r_X4_take : Nat → Nat → Int32 → Int32 → Int32 → Int32 → Int32 → ST → Option (ST)} {r_X4_takeField : Nat → Nat → Int32 → Int32 → Int32 → Int32 → Int32 → ST → Option (ST)} {r_X4_takeList : Nat → Nat → Int32 → Int32 → Int32 → Int32 → Int32 → ST → Option (ST)} {r_X4_takeOwn : Nat → Nat → Int32 → Int32 → Int32 → Int32 → Int32 → ST → Option (ST)} {r_X4_takeRecord : Nat → Nat → Int32 → Int32 → Int32 → Int32 → Int32 → ST → Option (ST)} {b : Nat} {t : Nat} {p0 : Int32} {p1 : Int32} {p2 : Int32} {p3 : Int32} {p4 : Int32} {σ : ST} (h_r_X4_take : ∀ (x1 : Nat) (x2 : Nat) (x3 : Int32) (x4 : Int32) (x5 : Int32) (x6 : Int32) (x7 : Int32) (σ : ST), B0 = x1 → T0 = x2 → KRA B0 T0 s σ → PF st0 (KRA B0 T0 s) (r_X4_take x1 x2 x3 x4 x5 x6 x7 σ)) (h_r_X4_takeField : ∀ (x1 : Nat) (x2 : Nat) (x3 : Int32) (x4 : Int32) (x5 : Int32) (x6 : Int32) (x7 : Int32) (σ : ST), B0 = x1 → T0 = x2 → KRA B0 T0 s σ → PF st0 (KRA B0 T0 s) (r_X4_takeField x1 x2 x3 x4 x5 x6 x7 σ)) (h_r_X4_takeList : ∀ (x1 : Nat) (x2 : Nat) (x3 : Int32) (x4 : Int32) (x5 : Int32) (x6 : Int32) (x7 : Int32) (σ : ST), B0 = x1 → T0 = x2 → KRA B0 T0 s σ → PF st0 (KRA B0 T0 s) (r_X4_takeList x1 x2 x3 x4 x5 x6 x7 σ)) (h_r_X4_takeOwn : ∀ (x1 : Nat) (x2 : Nat) (x3 : Int32) (x4 : Int32) (x5 : Int32) (x6 : Int32) (x7 : Int32) (σ : ST), B0 = x1 → T0 = x2 → KRA B0 T0 s σ → PF st0 (KRA B0 T0 s) (r_X4_takeOwn x1 x2 x3 x4 x5 x6 x7 σ)) (h_r_X4_takeRecord : ∀ (x1 : Nat) (x2 : Nat) (x3 : Int32) (x4 : Int32) (x5 : Int32) (x6 : Int32) (x7 : Int32) (σ : ST), B0 = x1 → T0 = x2 → KRA B0 T0 s σ → PF st0 (KRA B0 T0 s) (r_X4_takeRecord x1 x2 x3 x4 x5 x6 x7 σ)) (h_b : B0 = b) (h_t : T0 = t) (h : KRA B0 T0 s σ) : PF st0 (KRA B0 T0 s) (f_X4_take r_X4_take r_X4_takeField r_X4_takeList r_X4_takeOwn r_X4_takeRecord b t p0 p1 p2 p3 p4 σ) := by
  unfold f_X4_take
  exact (PF.ite (fun _ => (PF.ite (fun _ => (PF.bnd (wr_X4_isEmptyThere  h) (fun q1 hq1 => (PF.ite (fun _ => (wr_X4_take_34 h_r_X4_take h_r_X4_takeField h_r_X4_takeList h_r_X4_takeOwn h_r_X4_takeRecord (by omega) (by omega) hq1)) (fun _ => (PF.ret0 hq1)))))) (fun _ => (wr_X4_take_34 h_r_X4_take h_r_X4_takeField h_r_X4_takeList h_r_X4_takeOwn h_r_X4_takeRecord (by omega) (by omega) h)))) (fun _ => (PF.bnd (wr_X4_fail (by omega) h) (fun q3 hq3 => (PF.ret0 hq3)))))
theorem wr_X5_fieldsOf {B0 T0 : Nat} {s : ST} {b : Nat} {p0 : Int32} {σ : ST}   (h : KRA B0 T0 s σ) : PF st1 (KRA B0 T0 s) (f_X5_fieldsOf b p0 σ) := by
  unfold f_X5_fieldsOf
  exact (PF.bnd (wr_X5_isRecord  h) (fun q1 hq1 => (PF.ite (fun _ => (PF.ret1 hq1)) (fun _ => (PF.ite (fun _ => (PF.ret1 hq1)) (fun _ => PF.none))))))
theorem wr_X4_takeField_82 {B0 T0 : Nat} {s : ST} {r_X4_take : Nat → Nat → Int32 → Int32 → Int32 → Int32 → Int32 → ST → Option (ST)} {r_X4_takeField : Nat → Nat → Int32 → Int32 → Int32 → Int32 → Int32 → ST → Option (ST)} {r_X4_takeList : Nat → Nat → Int32 → Int32 → Int32 → Int32 → Int32 → ST → Option (ST)} {r_X4_takeOwn : Nat → Nat → Int32 → Int32 → Int32 → Int32 → Int32 → ST → Option (ST)} {r_X4_takeRecord : Nat → Nat → Int32 → Int32 → Int32 → Int32 → Int32 → ST → Option (ST)} {b : Nat} {t : Nat} {x1 : Int32} {x5 : Int32} {x7 : Int32} {σ : ST} (h_r_X4_take : ∀ (x1 : Nat) (x2 : Nat) (x3 : Int32) (x4 : Int32) (x5 : Int32) (x6 : Int32) (x7 : Int32) (σ : ST), B0 = x1 → T0 = x2 → KRA B0 T0 s σ → PF st0 (KRA B0 T0 s) (r_X4_take x1 x2 x3 x4 x5 x6 x7 σ)) (h_r_X4_takeField : ∀ (x1 : Nat) (x2 : Nat) (x3 : Int32) (x4 : Int32) (x5 : Int32) (x6 : Int32) (x7 : Int32) (σ : ST), B0 = x1 → T0 = x2 → KRA B0 T0 s σ → PF st0 (KRA B0 T0 s) (r_X4_takeField x1 x2 x3 x4 x5 x6 x7 σ)) (h_r_X4_takeList : ∀ (x1 : Nat) (x2 : Nat) (x3 : Int32) (x4 : Int32) (x5 : Int32) (x6 : Int32) (x7 : Int32) (σ : ST), B0 = x1 → T0 = x2 → KRA B0 T0 s σ → PF st0 (KRA B0 T0 s) (r_X4_takeList x1 x2 x3 x4 x5 x6 x7 σ)) (h_r_X4_takeOwn : ∀ (x1 : Nat) (x2 : Nat) (x3 : Int32) (x4 : Int32) (x5 : Int32) (x6 : Int32) (x7 : Int32) (σ : ST), B0 = x1 → T0 = x2 → KRA B0 T0 s σ → PF st0 (KRA B0 T0 s) (r_X4_takeOwn x1 x2 x3 x4 x5 x6 x7 σ)) (h_r_X4_takeRecord : ∀ (x1 : Nat) (x2 : Nat) (x3 : Int32) (x4 : Int32) (x5 : Int32) (x6 : Int32) (x7 : Int32) (σ : ST), B0 = x1 → T0 = x2 → KRA B0 T0 s σ → PF st0 (KRA B0 T0 s) (r_X4_takeRecord x1 x2 x3 x4 x5 x6 x7 σ)) (h_b : B0 = b) (h_t : T0 = t) (h : KRA B0 T0 s σ) : PF st0 (KRA B0 T0 s) (f_X4_takeField_82 r_X4_take r_X4_takeField r_X4_takeList r_X4_takeOwn r_X4_takeRecord b t x1 x5 x7 σ) := by
  unfold f_X4_takeField_82
  exact (PF.ite (fun _ => (PF.bnd (h_r_X4_take _ _ _ _ _ _ _ _ (by omega) (by omega) h) (fun q1 hq1 => (PF.ret0 hq1)))) (fun _ => (PF.ret0 h)))
theorem wr_X4_sourceAt {B0 T0 : Nat} {s : ST} {b : Nat} {t : Nat} {p0 : Int32} {p1 : Int32} {σ : ST}   (h : KRA B0 T0 s σ) : PF st1 (KRA B0 T0 s) (f_X4_sourceAt b t p0 p1 σ) := by
  unfold f_X4_sourceAt
  exact (PF.ite (fun _ => (PF.ret1 h)) (fun _ => (PF.ite (fun _ => (PF.ret1 h)) (fun _ => (PF.ite (fun _ => (PF.ret1 h)) (fun _ => (PF.ite (fun _ => (PF.ret1 h)) (fun _ => (PF.ite (fun _ => (PF.ret1 h)) (fun _ => PF.none))))))))))
theorem wr_X5_isFieldOf {B0 T0 : Nat} {s : ST} {p0 : Int32} {p1 : Int32} {σ : ST}   (h : KRA B0 T0 s σ) : PF st1 (KRA B0 T0 s) (f_X5_isFieldOf p0 p1 σ) := by
  unfold f_X5_isFieldOf
  exact (PF.ite (fun _ => (PF.ret1 h)) (fun _ => (PF.ite (fun _ => (PF.ret1 h)) (fun _ => (PF.ite (fun _ => (PF.ret1 h)) (fun _ => (PF.ite (fun _ => (PF.ret1 h)) (fun _ => (PF.ret1 h)))))))))
theorem wr_X5_typeOf {B0 T0 : Nat} {s : ST} {b : Nat} {p0 : Int32} {p1 : Int32} {σ : ST}   (h : KRA B0 T0 s σ) : PF st1 (KRA B0 T0 s) (f_X5_typeOf b p0 p1 σ) := by
  unfold f_X5_typeOf
  exact (PF.bnd (wr_X5_isFieldOf  h) (fun q1 hq1 => (PF.ite (fun _ => (PF.ret1 hq1)) (fun _ => (PF.ite (fun _ => (PF.ret1 hq1)) (fun _ => PF.none))))))
theorem wr_X4_takeField_76 {B0 T0 : Nat} {s : ST} {r_X4_take : Nat → Nat → Int32 → Int32 → Int32 → Int32 → Int32 → ST → Option (ST)} {r_X4_takeField : Nat → Nat → Int32 → Int32 → Int32 → Int32 → Int32 → ST → Option (ST)} {r_X4_takeList : Nat → Nat → Int32 → Int32 → Int32 → Int32 → Int32 → ST → Option (ST)} {r_X4_takeOwn : Nat → Nat → Int32 → Int32 → Int32 → Int32 → Int32 → ST → Option (ST)} {r_X4_takeRecord : Nat → Nat → Int32 → Int32 → Int32 → Int32 → Int32 → ST → Option (ST)} {k12 : Int32 → Int32 → Int32 → Int32 → Int32 → Int32 → Int32 → Int32 → ST → Option (ST)} {b : Nat} {t : Nat} {x1 : Int32} {x2 : Int32} {x3 : Int32} {x4 : Int32} {x5 : Int32} {x6 : Int32} {x7 : Int32} {x8 : Int32} {σ : ST} (h_r_X4_take : ∀ (x1 : Nat) (x2 : Nat) (x3 : Int32) (x4 : Int32) (x5 : Int32) (x6 : Int32) (x7 : Int32) (σ : ST), B0 = x1 → T0 = x2 → KRA B0 T0 s σ → PF st0 (KRA B0 T0 s) (r_X4_take x1 x2 x3 x4 x5 x6 x7 σ)) (h_r_X4_takeField : ∀ (x1 : Nat) (x2 : Nat) (x3 : Int32) (x4 : Int32) (x5 : Int32) (x6 : Int32) (x7 : Int32) (σ : ST), B0 = x1 → T0 = x2 → KRA B0 T0 s σ → PF st0 (KRA B0 T0 s) (r_X4_takeField x1 x2 x3 x4 x5 x6 x7 σ)) (h_r_X4_takeList : ∀ (x1 : Nat) (x2 : Nat) (x3 : Int32) (x4 : Int32) (x5 : Int32) (x6 : Int32) (x7 : Int32) (σ : ST), B0 = x1 → T0 = x2 → KRA B0 T0 s σ → PF st0 (KRA B0 T0 s) (r_X4_takeList x1 x2 x3 x4 x5 x6 x7 σ)) (h_r_X4_takeOwn : ∀ (x1 : Nat) (x2 : Nat) (x3 : Int32) (x4 : Int32) (x5 : Int32) (x6 : Int32) (x7 : Int32) (σ : ST), B0 = x1 → T0 = x2 → KRA B0 T0 s σ → PF st0 (KRA B0 T0 s) (r_X4_takeOwn x1 x2 x3 x4 x5 x6 x7 σ)) (h_r_X4_takeRecord : ∀ (x1 : Nat) (x2 : Nat) (x3 : Int32) (x4 : Int32) (x5 : Int32) (x6 : Int32) (x7 : Int32) (σ : ST), B0 = x1 → T0 = x2 → KRA B0 T0 s σ → PF st0 (KRA B0 T0 s) (r_X4_takeRecord x1 x2 x3 x4 x5 x6 x7 σ)) (h_k12 : ∀ (x1 : Int32) (x2 : Int32) (x3 : Int32) (x4 : Int32) (x5 : Int32) (x6 : Int32) (x7 : Int32) (x8 : Int32) (σ : ST), KRA B0 T0 s σ → PF st0 (KRA B0 T0 s) (k12 x1 x2 x3 x4 x5 x6 x7 x8 σ))  (h : KRA B0 T0 s σ) : PF st0 (KRA B0 T0 s) (f_X4_takeField_76 r_X4_take r_X4_takeField r_X4_takeList r_X4_takeOwn r_X4_takeRecord k12 b t x1 x2 x3 x4 x5 x6 x7 x8 σ) := by
  unfold f_X4_takeField_76
  exact (h_k12 _ _ _ _ _ _ _ _ _ h)
theorem wr_X4_takeField_12 {B0 T0 : Nat} {s : ST} {r_X4_take : Nat → Nat → Int32 → Int32 → Int32 → Int32 → Int32 → ST → Option (ST)} {r_X4_takeField : Nat → Nat → Int32 → Int32 → Int32 → Int32 → Int32 → ST → Option (ST)} {r_X4_takeList : Nat → Nat → Int32 → Int32 → Int32 → Int32 → Int32 → ST → Option (ST)} {r_X4_takeOwn : Nat → Nat → Int32 → Int32 → Int32 → Int32 → Int32 → ST → Option (ST)} {r_X4_takeRecord : Nat → Nat → Int32 → Int32 → Int32 → Int32 → Int32 → ST → Option (ST)} {b : Nat} {t : Nat} (h_r_X4_take : ∀ (x1 : Nat) (x2 : Nat) (x3 : Int32) (x4 : Int32) (x5 : Int32) (x6 : Int32) (x7 : Int32) (σ : ST), B0 = x1 → T0 = x2 → KRA B0 T0 s σ → PF st0 (KRA B0 T0 s) (r_X4_take x1 x2 x3 x4 x5 x6 x7 σ)) (h_r_X4_takeField : ∀ (x1 : Nat) (x2 : Nat) (x3 : Int32) (x4 : Int32) (x5 : Int32) (x6 : Int32) (x7 : Int32) (σ : ST), B0 = x1 → T0 = x2 → KRA B0 T0 s σ → PF st0 (KRA B0 T0 s) (r_X4_takeField x1 x2 x3 x4 x5 x6 x7 σ)) (h_r_X4_takeList : ∀ (x1 : Nat) (x2 : Nat) (x3 : Int32) (x4 : Int32) (x5 : Int32) (x6 : Int32) (x7 : Int32) (σ : ST), B0 = x1 → T0 = x2 → KRA B0 T0 s σ → PF st0 (KRA B0 T0 s) (r_X4_takeList x1 x2 x3 x4 x5 x6 x7 σ)) (h_r_X4_takeOwn : ∀ (x1 : Nat) (x2 : Nat) (x3 : Int32) (x4 : Int32) (x5 : Int32) (x6 : Int32) (x7 : Int32) (σ : ST), B0 = x1 → T0 = x2 → KRA B0 T0 s σ → PF st0 (KRA B0 T0 s) (r_X4_takeOwn x1 x2 x3 x4 x5 x6 x7 σ)) (h_r_X4_takeRecord : ∀ (x1 : Nat) (x2 : Nat) (x3 : Int32) (x4 : Int32) (x5 : Int32) (x6 : Int32) (x7 : Int32) (σ : ST), B0 = x1 → T0 = x2 → KRA B0 T0 s σ → PF st0 (KRA B0 T0 s) (r_X4_takeRecord x1 x2 x3 x4 x5 x6 x7 σ)) (h_b : B0 = b) (h_t : T0 = t) : ∀ (n : Nat) (x1 : Int32) (x2 : Int32) (x3 : Int32) (x4 : Int32) (x5 : Int32) (x6 : Int32) (x7 : Int32) (x8 : Int32) (σ : ST), KRA B0 T0 s σ → PF st0 (KRA B0 T0 s) (f_X4_takeField_12 r_X4_take r_X4_takeField r_X4_takeList r_X4_takeOwn r_X4_takeRecord b t n x1 x2 x3 x4 x5 x6 x7 x8 σ) := by
  intro n
  induction n with
  | zero => intro x1 x2 x3 x4 x5 x6 x7 x8 σ h; rw [f_X4_takeField_12]; exact PF.none
  | succ n ih =>
    intro x1 x2 x3 x4 x5 x6 x7 x8 σ h
    rw [f_X4_takeField_12]
    exact (PF.bnd (wr_X5_fieldsOf  h) (fun q1 hq1 => (PF.ite (fun _ => (wr_X4_takeField_82 h_r_X4_take h_r_X4_takeField h_r_X4_takeList h_r_X4_takeOwn h_r_X4_takeRecord (by omega) (by omega) hq1)) (fun _ => (PF.ite (fun _ => (PF.bnd (wr_X4_sourceAt  hq1) (fun q3 hq3 => (PF.ite (fun _ => (PF.bnd (wr_X5_typeOf  (KRA.i (by omega) hq3)) (fun q5 hq5 => (PF.bnd (h_r_X4_take _ _ _ _ _ _ _ _ (by omega) (by omega) hq5) (fun q7 hq7 => (wr_X4_takeField_76 h_r_X4_take h_r_X4_takeField h_r_X4_takeList h_r_X4_takeOwn h_r_X4_takeRecord ih hq7)))))) (fun _ => (wr_X4_takeField_76 h_r_X4_take h_r_X4_takeField h_r_X4_takeList h_r_X4_takeOwn h_r_X4_takeRecord ih hq3)))))) (fun _ => (wr_X4_takeField_82 h_r_X4_take h_r_X4_takeField h_r_X4_takeList h_r_X4_takeOwn h_r_X4_takeRecord (by omega) (by omega) hq1)))))))
theorem wr_X4_takeField {B0 T0 : Nat} {s : ST} {r_X4_take : Nat → Nat → Int32 → Int32 → Int32 → Int32 → Int32 → ST → Option (ST)} {r_X4_takeField : Nat → Nat → Int32 → Int32 → Int32 → Int32 → Int32 → ST → Option (ST)} {r_X4_takeList : Nat → Nat → Int32 → Int32 → Int32 → Int32 → Int32 → ST → Option (ST)} {r_X4_takeOwn : Nat → Nat → Int32 → Int32 → Int32 → Int32 → Int32 → ST → Option (ST)} {r_X4_takeRecord : Nat → Nat → Int32 → Int32 → Int32 → Int32 → Int32 → ST → Option (ST)} {b : Nat} {t : Nat} {p0 : Int32} {p1 : Int32} {p2 : Int32} {p3 : Int32} {p4 : Int32} {σ : ST} (h_r_X4_take : ∀ (x1 : Nat) (x2 : Nat) (x3 : Int32) (x4 : Int32) (x5 : Int32) (x6 : Int32) (x7 : Int32) (σ : ST), B0 = x1 → T0 = x2 → KRA B0 T0 s σ → PF st0 (KRA B0 T0 s) (r_X4_take x1 x2 x3 x4 x5 x6 x7 σ)) (h_r_X4_takeField : ∀ (x1 : Nat) (x2 : Nat) (x3 : Int32) (x4 : Int32) (x5 : Int32) (x6 : Int32) (x7 : Int32) (σ : ST), B0 = x1 → T0 = x2 → KRA B0 T0 s σ → PF st0 (KRA B0 T0 s) (r_X4_takeField x1 x2 x3 x4 x5 x6 x7 σ)) (h_r_X4_takeList : ∀ (x1 : Nat) (x2 : Nat) (x3 : Int32) (x4 : Int32) (x5 : Int32) (x6 : Int32) (x7 : Int32) (σ : ST), B0 = x1 → T0 = x2 → KRA B0 T0 s σ → PF st0 (KRA B0 T0 s) (r_X4_takeList x1 x2 x3 x4 x5 x6 x7 σ)) (h_r_X4_takeOwn : ∀ (x1 : Nat) (x2 : Nat) (x3 : Int32) (x4 : Int32) (x5 : Int32) (x6 : Int32) (x7 : Int32) (σ : ST), B0 = x1 → T0 = x2 → KRA B0 T0 s σ → PF st0 (KRA B0 T0 s) (r_X4_takeOwn x1 x2 x3 x4 x5 x6 x7 σ)) (h_r_X4_takeRecord : ∀ (x1 : Nat) (x2 : Nat) (x3 : Int32) (x4 : Int32) (x5 : Int32) (x6 : Int32) (x7 : Int32) (σ : ST), B0 = x1 → T0 = x2 → KRA B0 T0 s σ → PF st0 (KRA B0 T0 s) (r_X4_takeRecord x1 x2 x3 x4 x5 x6 x7 σ)) (h_b : B0 = b) (h_t : T0 = t) (h : KRA B0 T0 s σ) : PF st0 (KRA B0 T0 s) (f_X4_takeField r_X4_take r_X4_takeField r_X4_takeList r_X4_takeOwn r_X4_takeRecord b t p0 p1 p2 p3 p4 σ) := by
  unfold f_X4_takeField
  exact (wr_X4_takeField_12 h_r_X4_take h_r_X4_takeField h_r_X4_takeList h_r_X4_takeOwn h_r_X4_takeRecord (by omega) (by omega) _ _ _ _ _ _ _ _ _ _ h)
theorem wr_X7_isRow {B0 T0 : Nat} {s : ST} {b : Nat} {p0 : Int32} {σ : ST}   (h : KRA B0 T0 s σ) : PF st1 (KRA B0 T0 s) (f_X7_isRow b p0 σ) := by
  unfold f_X7_isRow
  exact (PF.ite (fun _ => (PF.ret1 h)) (fun _ => (PF.ite (fun _ => (PF.ret1 h)) (fun _ => (PF.ite (fun _ => (PF.ret1 h)) (fun _ => (PF.ret1 h)))))))
theorem wr_X7_setWorth {B0 T0 : Nat} {s : ST} {b : Nat} {p0 : Int32} {p1 : Int32} {p2 : Int64} {σ : ST}  (h_b : T0 = b) (h : KRA B0 T0 s σ) : PF st0 (KRA B0 T0 s) (f_X7_setWorth b p0 p1 p2 σ) := by
  unfold f_X7_setWorth
  exact (PF.bnd (wr_X7_isRow  h) (fun q1 hq1 => (PF.ite (fun _ => (PF.ret0 hq1)) (fun _ => (PF.ite (fun _ => (PF.ret0 (KRA.l (by omega) (KRA.i (by omega) hq1)))) (fun _ => PF.none))))))
theorem wr_X4_addNode_63 {B0 T0 : Nat} {s : ST} {b : Nat} {t : Nat} {x4 : Int32} {x5 : Int64} {x7 : Int32} {σ : ST}  (h_t : T0 = t) (h : KRA B0 T0 s σ) : PF st1 (KRA B0 T0 s) (f_X4_addNode_63 b t x4 x5 x7 σ) := by
  unfold f_X4_addNode_63
  exact (PF.ite (fun _ => (PF.bnd (wr_X7_setWorth (by omega) h) (fun q2 hq2 => (PF.ret1 hq2)))) (fun _ => PF.none))
theorem wr_X4_addNode_48 {B0 T0 : Nat} {s : ST} {b : Nat} {t : Nat} {x4 : Int32} {x5 : Int64} {y0 : Int32} {σ : ST}  (h_b : B0 = b) (h_t : T0 = t) (h : KRA B0 T0 s σ) : PF st1 (KRA B0 T0 s) (f_X4_addNode_48 b t x4 x5 y0 σ) := by
  unfold f_X4_addNode_48
  exact (PF.ite (fun _ => (PF.bnd (wr_X4_fail (by omega) h) (fun q1 hq1 => (wr_X4_addNode_63 (by omega) hq1)))) (fun _ => (wr_X4_addNode_63 (by omega) h)))
theorem wr_X7_link_155 {B0 T0 : Nat} {s : ST} {b : Nat} {x1 : Int32} {x2 : Int32} {σ : ST}  (h_b : T0 = b) (h : KRA B0 T0 s σ) : PF st0 (KRA B0 T0 s) (f_X7_link_155 b x1 x2 σ) := by
  unfold f_X7_link_155
  exact (PF.ite (fun _ => (PF.ite (fun _ => (PF.ite (fun _ => (PF.ret0 (KRA.i (by omega) h))) (fun _ => PF.none))) (fun _ => (PF.ret0 h)))) (fun _ => PF.none))
theorem wr_X7_link_103 {B0 T0 : Nat} {s : ST} {b : Nat} {x1 : Int32} {x2 : Int32} {x4 : Int32} {σ : ST}  (h_b : T0 = b) (h : KRA B0 T0 s σ) : PF st0 (KRA B0 T0 s) (f_X7_link_103 b x1 x2 x4 σ) := by
  unfold f_X7_link_103
  exact (PF.bnd (wr_X7_isRow  h) (fun q1 hq1 => (PF.ite (fun _ => (PF.ite (fun _ => (PF.ite (fun _ => (PF.bnd (PF.ret0 (KRA.i (by omega) (KRA.i (by omega) hq1))) (fun z5 hz5 => (wr_X7_link_155 (by omega) hz5)))) (fun _ => PF.none))) (fun _ => PF.none))) (fun _ => (PF.ite (fun _ => (PF.ite (fun _ => (PF.bnd (PF.ret0 (KRA.i (by omega) (KRA.i (by omega) hq1))) (fun z8 hz8 => (wr_X7_link_155 (by omega) hz8)))) (fun _ => PF.none))) (fun _ => PF.none))))))
theorem wr_X7_link_50 {B0 T0 : Nat} {s : ST} {b : Nat}  (h_b : T0 = b) : ∀ (n : Nat) (x1 : Int32) (x2 : Int32) (x3 : Int32) (x4 : Int32) (x5 : Int32) (σ : ST), KRA B0 T0 s σ → PF st0 (KRA B0 T0 s) (f_X7_link_50 b n x1 x2 x3 x4 x5 σ) := by
  intro n
  induction n with
  | zero => intro x1 x2 x3 x4 x5 σ h; rw [f_X7_link_50]; exact PF.none
  | succ n ih =>
    intro x1 x2 x3 x4 x5 σ h
    rw [f_X7_link_50]
    exact (PF.ite (fun _ => (wr_X7_link_103 (by omega) h)) (fun _ => (PF.bnd (wr_X7_isRow  h) (fun q1 hq1 => (PF.ite (fun _ => (wr_X7_link_103 (by omega) hq1)) (fun _ => (PF.ite (fun _ => (PF.ite (fun _ => (PF.ite (fun _ => (wr_X7_link_103 (by omega) hq1)) (fun _ => (ih _ _ _ _ _ _ hq1)))) (fun _ => PF.none))) (fun _ => PF.none))))))))
theorem wr_X7_link_39 {B0 T0 : Nat} {s : ST} {b : Nat} {x1 : Int32} {x2 : Int32} {x4 : Int32} {σ : ST}  (h_b : T0 = b) (h : KRA B0 T0 s σ) : PF st0 (KRA B0 T0 s) (f_X7_link_39 b x1 x2 x4 σ) := by
  unfold f_X7_link_39
  exact (PF.ite (fun _ => (wr_X7_link_50 (by omega) _ _ _ _ _ _ _ h)) (fun _ => PF.none))
theorem wr_X7_link {B0 T0 : Nat} {s : ST} {b : Nat} {p0 : Int32} {p1 : Int32} {σ : ST}  (h_b : T0 = b) (h : KRA B0 T0 s σ) : PF st0 (KRA B0 T0 s) (f_X7_link b p0 p1 σ) := by
  unfold f_X7_link
  exact (PF.ite (fun _ => (PF.bnd (wr_X7_isRow  h) (fun q2 hq2 => (PF.ite (fun _ => (wr_X7_link_39 (by omega) hq2)) (fun _ => (PF.ite (fun _ => (PF.ite (fun _ => (PF.ite (fun _ => (wr_X7_link_39 (by omega) hq2)) (fun _ => (wr_X7_link_103 (by omega) hq2)))) (fun _ => PF.none))) (fun _ => PF.none))))))) (fun _ => PF.none))
theorem wr_X7_grow {B0 T0 : Nat} {s : ST} {b : Nat} {p0 : Int32} {p1 : Int32} {p2 : Int32} {σ : ST}  (h_b : T0 = b) (h : KRA B0 T0 s σ) : PF st1 (KRA B0 T0 s) (f_X7_grow b p0 p1 p2 σ) := by
  unfold f_X7_grow
  exact (PF.ite (fun _ => (PF.ite (fun _ => (PF.bnd (PF.ret0 (KRA.i (by omega) (KRA.i (by omega) (KRA.i (by omega) h)))) (fun z2 hz2 => (PF.bnd (PF.ret0 (KRA.i (by omega) (KRA.i (by omega) (KRA.i (by omega) hz2)))) (fun z3 hz3 => (PF.bnd (PF.ret0 (KRA.i (by omega) (KRA.l (by omega) hz3))) (fun z4 hz4 => (PF.bnd (PF.ret0 (KRA.i (by omega) (KRA.i (by omega) hz4))) (fun z5 hz5 => (PF.bnd (wr_X7_isRow  hz5) (fun q6 hq6 => (PF.ite (fun _ => (PF.ret1 hq6)) (fun _ => (PF.bnd (wr_X7_link (by omega) hq6) (fun q8 hq8 => (PF.ret1 hq8)))))))))))))))) (fun _ => PF.none))) (fun _ => (PF.ret1 h)))
theorem wr_X4_addNode {B0 T0 : Nat} {s : ST} {b : Nat} {t : Nat} {p0 : Int32} {p1 : Int32} {p2 : Int32} {p3 : Int32} {p4 : Int64} {σ : ST}  (h_b : B0 = b) (h_t : T0 = t) (h : KRA B0 T0 s σ) : PF st1 (KRA B0 T0 s) (f_X4_addNode b t p0 p1 p2 p3 p4 σ) := by
  unfold f_X4_addNode
  exact (PF.ite (fun _ => (PF.ret1 h)) (fun _ => (PF.ite (fun _ => (PF.ite (fun _ => (PF.ite (fun _ => (wr_X4_addNode_48 (by omega) (by omega) h)) (fun _ => (PF.bnd (wr_X5_sortOf  h) (fun q2 hq2 => (PF.bnd (wr_X7_grow (by omega) hq2) (fun q4 hq4 => (wr_X4_addNode_48 (by omega) (by omega) hq4)))))))) (fun _ => PF.none))) (fun _ => (PF.ret1 h)))))
theorem wr_X4_takeList_48 {B0 T0 : Nat} {s : ST} {r_X4_take : Nat → Nat → Int32 → Int32 → Int32 → Int32 → Int32 → ST → Option (ST)} {r_X4_takeField : Nat → Nat → Int32 → Int32 → Int32 → Int32 → Int32 → ST → Option (ST)} {r_X4_takeList : Nat → Nat → Int32 → Int32 → Int32 → Int32 → Int32 → ST → Option (ST)} {r_X4_takeOwn : Nat → Nat → Int32 → Int32 → Int32 → Int32 → Int32 → ST → Option (ST)} {r_X4_takeRecord : Nat → Nat → Int32 → Int32 → Int32 → Int32 → Int32 → ST → Option (ST)} {b : Nat} {t : Nat} (h_r_X4_take : ∀ (x1 : Nat) (x2 : Nat) (x3 : Int32) (x4 : Int32) (x5 : Int32) (x6 : Int32) (x7 : Int32) (σ : ST), B0 = x1 → T0 = x2 → KRA B0 T0 s σ → PF st0 (KRA B0 T0 s) (r_X4_take x1 x2 x3 x4 x5 x6 x7 σ)) (h_r_X4_takeField : ∀ (x1 : Nat) (x2 : Nat) (x3 : Int32) (x4 : Int32) (x5 : Int32) (x6 : Int32) (x7 : Int32) (σ : ST), B0 = x1 → T0 = x2 → KRA B0 T0 s σ → PF st0 (KRA B0 T0 s) (r_X4_takeField x1 x2 x3 x4 x5 x6 x7 σ)) (h_r_X4_takeList : ∀ (x1 : Nat) (x2 : Nat) (x3 : Int32) (x4 : Int32) (x5 : Int32) (x6 : Int32) (x7 : Int32) (σ : ST), B0 = x1 → T0 = x2 → KRA B0 T0 s σ → PF st0 (KRA B0 T0 s) (r_X4_takeList x1 x2 x3 x4 x5 x6 x7 σ)) (h_r_X4_takeOwn : ∀ (x1 : Nat) (x2 : Nat) (x3 : Int32) (x4 : Int32) (x5 : Int32) (x6 : Int32) (x7 : Int32) (σ : ST), B0 = x1 → T0 = x2 → KRA B0 T0 s σ → PF st0 (KRA B0 T0 s) (r_X4_takeOwn x1 x2 x3 x4 x5 x6 x7 σ)) (h_r_X4_takeRecord : ∀ (x1 : Nat) (x2 : Nat) (x3 : Int32) (x4 : Int32) (x5 : Int32) (x6 : Int32) (x7 : Int32) (σ : ST), B0 = x1 → T0 = x2 → KRA B0 T0 s σ → PF st0 (KRA B0 T0 s) (r_X4_takeRecord x1 x2 x3 x4 x5 x6 x7 σ)) (h_b : B0 = b) (h_t : T0 = t) : ∀ (n : Nat) (x1 : Int32) (x2 : Int32) (x3 : Int32) (x4 : Int32) (x5 : Int32) (x6 : Int32) (σ : ST), KRA B0 T0 s σ → PF st0 (KRA B0 T0 s) (f_X4_takeList_48 r_X4_take r_X4_takeField r_X4_takeList r_X4_takeOwn r_X4_takeRecord b t n x1 x2 x3 x4 x5 x6 σ) := by
  intro n
  induction n with
  | zero => intro x1 x2 x3 x4 x5 x6 σ h; rw [f_X4_takeList_48]; exact PF.none
  | succ n ih =>
    intro x1 x2 x3 x4 x5 x6 σ h
    rw [f_X4_takeList_48]
    exact (PF.ite (fun _ => (PF.ret0 h)) (fun _ => (PF.ite (fun _ => (PF.bnd (wr_X4_step (by omega) h) (fun q1 hq1 => (PF.bnd (h_r_X4_take _ _ _ _ _ _ _ _ (by omega) (by omega) hq1) (fun q3 hq3 => (PF.bnd (wr_X4_stepBack (by omega) hq3) (fun q5 hq5 => (ih _ _ _ _ _ _ _ hq5)))))))) (fun _ => (PF.ret0 h)))))
theorem wr_X4_takeList_43 {B0 T0 : Nat} {s : ST} {r_X4_take : Nat → Nat → Int32 → Int32 → Int32 → Int32 → Int32 → ST → Option (ST)} {r_X4_takeField : Nat → Nat → Int32 → Int32 → Int32 → Int32 → Int32 → ST → Option (ST)} {r_X4_takeList : Nat → Nat → Int32 → Int32 → Int32 → Int32 → Int32 → ST → Option (ST)} {r_X4_takeOwn : Nat → Nat → Int32 → Int32 → Int32 → Int32 → Int32 → ST → Option (ST)} {r_X4_takeRecord : Nat → Nat → Int32 → Int32 → Int32 → Int32 → Int32 → ST → Option (ST)} {b : Nat} {t : Nat} {x1 : Int32} {x5 : Int32} {x6 : Int32} {x7 : Int32} {y0 : Int32} {σ : ST} (h_r_X4_take : ∀ (x1 : Nat) (x2 : Nat) (x3 : Int32) (x4 : Int32) (x5 : Int32) (x6 : Int32) (x7 : Int32) (σ : ST), B0 = x1 → T0 = x2 → KRA B0 T0 s σ → PF st0 (KRA B0 T0 s) (r_X4_take x1 x2 x3 x4 x5 x6 x7 σ)) (h_r_X4_takeField : ∀ (x1 : Nat) (x2 : Nat) (x3 : Int32) (x4 : Int32) (x5 : Int32) (x6 : Int32) (x7 : Int32) (σ : ST), B0 = x1 → T0 = x2 → KRA B0 T0 s σ → PF st0 (KRA B0 T0 s) (r_X4_takeField x1 x2 x3 x4 x5 x6 x7 σ)) (h_r_X4_takeList : ∀ (x1 : Nat) (x2 : Nat) (x3 : Int32) (x4 : Int32) (x5 : Int32) (x6 : Int32) (x7 : Int32) (σ : ST), B0 = x1 → T0 = x2 → KRA B0 T0 s σ → PF st0 (KRA B0 T0 s) (r_X4_takeList x1 x2 x3 x4 x5 x6 x7 σ)) (h_r_X4_takeOwn : ∀ (x1 : Nat) (x2 : Nat) (x3 : Int32) (x4 : Int32) (x5 : Int32) (x6 : Int32) (x7 : Int32) (σ : ST), B0 = x1 → T0 = x2 → KRA B0 T0 s σ → PF st0 (KRA B0 T0 s) (r_X4_takeOwn x1 x2 x3 x4 x5 x6 x7 σ)) (h_r_X4_takeRecord : ∀ (x1 : Nat) (x2 : Nat) (x3 : Int32) (x4 : Int32) (x5 : Int32) (x6 : Int32) (x7 : Int32) (σ : ST), B0 = x1 → T0 = x2 → KRA B0 T0 s σ → PF st0 (KRA B0 T0 s) (r_X4_takeRecord x1 x2 x3 x4 x5 x6 x7 σ)) (h_b : B0 = b) (h_t : T0 = t) (h : KRA B0 T0 s σ) : PF st0 (KRA B0 T0 s) (f_X4_takeList_43 r_X4_take r_X4_takeField r_X4_takeList r_X4_takeOwn r_X4_takeRecord b t x1 x5 x6 x7 y0 σ) := by
  unfold f_X4_takeList_43
  exact (wr_X4_takeList_48 h_r_X4_take h_r_X4_takeField h_r_X4_takeList h_r_X4_takeOwn h_r_X4_takeRecord (by omega) (by omega) _ _ _ _ _ _ _ _ h)
theorem wr_X4_takeList {B0 T0 : Nat} {s : ST} {r_X4_take : Nat → Nat → Int32 → Int32 → Int32 → Int32 → Int32 → ST → Option (ST)} {r_X4_takeField : Nat → Nat → Int32 → Int32 → Int32 → Int32 → Int32 → ST → Option (ST)} {r_X4_takeList : Nat → Nat → Int32 → Int32 → Int32 → Int32 → Int32 → ST → Option (ST)} {r_X4_takeOwn : Nat → Nat → Int32 → Int32 → Int32 → Int32 → Int32 → ST → Option (ST)} {r_X4_takeRecord : Nat → Nat → Int32 → Int32 → Int32 → Int32 → Int32 → ST → Option (ST)} {b : Nat} {t : Nat} {p0 : Int32} {p1 : Int32} {p2 : Int32} {p3 : Int32} {p4 : Int32} {σ : ST} (h_r_X4_take : ∀ (x1 : Nat) (x2 : Nat) (x3 : Int32) (x4 : Int32) (x5 : Int32) (x6 : Int32) (x7 : Int32) (σ : ST), B0 = x1 → T0 = x2 → KRA B0 T0 s σ → PF st0 (KRA B0 T0 s) (r_X4_take x1 x2 x3 x4 x5 x6 x7 σ)) (h_r_X4_takeField : ∀ (x1 : Nat) (x2 : Nat) (x3 : Int32) (x4 : Int32) (x5 : Int32) (x6 : Int32) (x7 : Int32) (σ : ST), B0 = x1 → T0 = x2 → KRA B0 T0 s σ → PF st0 (KRA B0 T0 s) (r_X4_takeField x1 x2 x3 x4 x5 x6 x7 σ)) (h_r_X4_takeList : ∀ (x1 : Nat) (x2 : Nat) (x3 : Int32) (x4 : Int32) (x5 : Int32) (x6 : Int32) (x7 : Int32) (σ : ST), B0 = x1 → T0 = x2 → KRA B0 T0 s σ → PF st0 (KRA B0 T0 s) (r_X4_takeList x1 x2 x3 x4 x5 x6 x7 σ)) (h_r_X4_takeOwn : ∀ (x1 : Nat) (x2 : Nat) (x3 : Int32) (x4 : Int32) (x5 : Int32) (x6 : Int32) (x7 : Int32) (σ : ST), B0 = x1 → T0 = x2 → KRA B0 T0 s σ → PF st0 (KRA B0 T0 s) (r_X4_takeOwn x1 x2 x3 x4 x5 x6 x7 σ)) (h_r_X4_takeRecord : ∀ (x1 : Nat) (x2 : Nat) (x3 : Int32) (x4 : Int32) (x5 : Int32) (x6 : Int32) (x7 : Int32) (σ : ST), B0 = x1 → T0 = x2 → KRA B0 T0 s σ → PF st0 (KRA B0 T0 s) (r_X4_takeRecord x1 x2 x3 x4 x5 x6 x7 σ)) (h_b : B0 = b) (h_t : T0 = t) (h : KRA B0 T0 s σ) : PF st0 (KRA B0 T0 s) (f_X4_takeList r_X4_take r_X4_takeField r_X4_takeList r_X4_takeOwn r_X4_takeRecord b t p0 p1 p2 p3 p4 σ) := by
  unfold f_X4_takeList
  exact (PF.bnd (wr_X4_takeCount (by omega) h) (fun q1 hq1 => (PF.bnd (wr_X4_addNode (by omega) (by omega) hq1) (fun q3 hq3 => (PF.ite (fun _ => (wr_X4_takeList_43 h_r_X4_take h_r_X4_takeField h_r_X4_takeList h_r_X4_takeOwn h_r_X4_takeRecord (by omega) (by omega) hq3)) (fun _ => (PF.bnd (wr_X5_innerOf  hq3) (fun q5 hq5 => (wr_X4_takeList_43 h_r_X4_take h_r_X4_takeField h_r_X4_takeList h_r_X4_takeOwn h_r_X4_takeRecord (by omega) (by omega) hq5)))))))))
theorem wr_T_X0_chosenWithin {B0 T0 : Nat} {s : ST} {p0 : Int32} {p1 : Int32} {p2 : Int32} {σ : ST} (h : KRA B0 T0 s σ) : PF st1 (KRA B0 T0 s) (f_T_X0_chosenWithin p0 p1 p2 σ) := (wrR_X0_chosenWithin FR).1 _ _ _ _  h
theorem wr_X0_chosen {B0 T0 : Nat} {s : ST} {p0 : Int32} {p1 : Int32} {σ : ST}   (h : KRA B0 T0 s σ) : PF st1 (KRA B0 T0 s) (f_X0_chosen p0 p1 σ) := by
  unfold f_X0_chosen
  exact (PF.bnd (wr_T_X0_chosenWithin h) (fun q1 hq1 => (PF.ret1 hq1)))
theorem wr_X4_takePlain_183 {B0 T0 : Nat} {s : ST} {b : Nat} {t : Nat} {y0 : Int64} {y1 : Int32} {y2 : Int32} {y3 : Int32} {y4 : Int32} {σ : ST}  (h_b : B0 = b) (h_t : T0 = t) (h : KRA B0 T0 s σ) : PF st0 (KRA B0 T0 s) (f_X4_takePlain_183 b t y0 y1 y2 y3 y4 σ) := by
  unfold f_X4_takePlain_183
  exact (PF.bnd (wr_X4_addNode (by omega) (by omega) h) (fun q1 hq1 => (PF.ret0 hq1)))
theorem wr_X10_bitsOfPositive_81 {B0 T0 : Nat} {s : ST} {x2 : UInt64} {x4 : Int32} {σ : ST}   (h : KRA B0 T0 s σ) : PF st1 (KRA B0 T0 s) (f_X10_bitsOfPositive_81 x2 x4 σ) := by
  unfold f_X10_bitsOfPositive_81
  exact (PF.ret1 h)
theorem wr_X10_bitsOfPositive_51 {B0 T0 : Nat} {s : ST}    : ∀ (n : Nat) (x1 : UInt64) (x2 : Int32) (x3 : Int32) (σ : ST), KRA B0 T0 s σ → PF st1 (KRA B0 T0 s) (f_X10_bitsOfPositive_51  n x1 x2 x3 σ) := by
  intro n
  induction n with
  | zero => intro x1 x2 x3 σ h; rw [f_X10_bitsOfPositive_51]; exact PF.none
  | succ n ih =>
    intro x1 x2 x3 σ h
    rw [f_X10_bitsOfPositive_51]
    exact (PF.ite (fun _ => (wr_X10_bitsOfPositive_81  h)) (fun _ => (PF.ite (fun _ => (wr_X10_bitsOfPositive_81  h)) (fun _ => (PF.ite (fun _ => (ih _ _ _ _ h)) (fun _ => PF.none))))))
theorem wr_X10_bitsOfPositive_48 {B0 T0 : Nat} {s : ST} {x2 : UInt64} {x4 : Int32} {σ : ST}   (h : KRA B0 T0 s σ) : PF st1 (KRA B0 T0 s) (f_X10_bitsOfPositive_48 x2 x4 σ) := by
  unfold f_X10_bitsOfPositive_48
  exact (wr_X10_bitsOfPositive_51  _ _ _ _ _ h)
theorem wr_X10_bitsOfPositive_18 {B0 T0 : Nat} {s : ST}    : ∀ (n : Nat) (x1 : UInt64) (x2 : Int32) (x3 : Int32) (σ : ST), KRA B0 T0 s σ → PF st1 (KRA B0 T0 s) (f_X10_bitsOfPositive_18  n x1 x2 x3 σ) := by
  intro n
  induction n with
  | zero => intro x1 x2 x3 σ h; rw [f_X10_bitsOfPositive_18]; exact PF.none
  | succ n ih =>
    intro x1 x2 x3 σ h
    rw [f_X10_bitsOfPositive_18]
    exact (PF.ite (fun _ => (wr_X10_bitsOfPositive_48  h)) (fun _ => (PF.ite (fun _ => (wr_X10_bitsOfPositive_48  h)) (fun _ => (PF.ite (fun _ => (ih _ _ _ _ h)) (fun _ => PF.none))))))
theorem wr_X10_bitsOfPositive {B0 T0 : Nat} {s : ST} {p0 : UInt64} {σ : ST}   (h : KRA B0 T0 s σ) : PF st1 (KRA B0 T0 s) (f_X10_bitsOfPositive p0 σ) := by
  unfold f_X10_bitsOfPositive
  exact (PF.ite (fun _ => (wr_X10_bitsOfPositive_18  _ _ _ _ _ h)) (fun _ => (PF.ret1 h)))
theorem wr_X10_bitsOfWhole {B0 T0 : Nat} {s : ST} {p0 : Int64} {σ : ST}   (h : KRA B0 T0 s σ) : PF st1 (KRA B0 T0 s) (f_X10_bitsOfWhole p0 σ) := by
  unfold f_X10_bitsOfWhole
  exact (PF.ite (fun _ => (PF.ite (fun _ => (PF.bnd (wr_X10_bitsOfPositive  h) (fun q2 hq2 => (PF.ret1 hq2)))) (fun _ => PF.none))) (fun _ => (PF.bnd (wr_X10_bitsOfPositive  h) (fun q4 hq4 => (PF.ret1 hq4)))))
theorem wr_X4_takePlain_159 {B0 T0 : Nat} {s : ST} {b : Nat} {t : Nat} {x2 : Int32} {x3 : Int32} {x4 : Int32} {x6 : Int32} {x7 : Int64} {y0 : Int32} {σ : ST}  (h_b : B0 = b) (h_t : T0 = t) (h : KRA B0 T0 s σ) : PF st0 (KRA B0 T0 s) (f_X4_takePlain_159 b t x2 x3 x4 x6 x7 y0 σ) := by
  unfold f_X4_takePlain_159
  exact (PF.ite (fun _ => (wr_X4_takePlain_183 (by omega) (by omega) h)) (fun _ => (PF.bnd (wr_X10_bitsOfWhole  h) (fun q1 hq1 => (wr_X4_takePlain_183 (by omega) (by omega) hq1)))))
theorem wr_X4_takePlain_158 {B0 T0 : Nat} {s : ST} {b : Nat} {t : Nat} {x2 : Int32} {x3 : Int32} {x4 : Int32} {x6 : Int32} {x7 : Int64} {σ : ST}  (h_b : B0 = b) (h_t : T0 = t) (h : KRA B0 T0 s σ) : PF st0 (KRA B0 T0 s) (f_X4_takePlain_158 b t x2 x3 x4 x6 x7 σ) := by
  unfold f_X4_takePlain_158
  exact (wr_X4_takePlain_159 (by omega) (by omega) h)
theorem wr_X4_takePlain_137 {B0 T0 : Nat} {s : ST} {b : Nat} {t : Nat} {x1 : Int32} {x2 : Int32} {x3 : Int32} {x4 : Int32} {x6 : Int32} {x7 : Int64} {σ : ST}  (h_b : B0 = b) (h_t : T0 = t) (h : KRA B0 T0 s σ) : PF st0 (KRA B0 T0 s) (f_X4_takePlain_137 b t x1 x2 x3 x4 x6 x7 σ) := by
  unfold f_X4_takePlain_137
  exact (PF.ite (fun _ => (wr_X4_takePlain_158 (by omega) (by omega) h)) (fun _ => (PF.bnd (wr_X5_sortOf  h) (fun q1 hq1 => (PF.ite (fun _ => (wr_X4_takePlain_159 (by omega) (by omega) hq1)) (fun _ => (wr_X4_takePlain_158 (by omega) (by omega) hq1)))))))
theorem wr_X10_isInt {B0 T0 : Nat} {s : ST} {p0 : Int64} {σ : ST}   (h : KRA B0 T0 s σ) : PF st1 (KRA B0 T0 s) (f_X10_isInt p0 σ) := by
  unfold f_X10_isInt
  exact (PF.ite (fun _ => (PF.ret1 h)) (fun _ => (PF.ite (fun _ => (PF.ret1 h)) (fun _ => (PF.ret1 h)))))
theorem wr_X4_takeReal_44 {B0 T0 : Nat} {s : ST} {b : Nat} {t : Nat} {x1 : Int64} {y0 : Int32} {σ : ST}   (h : KRA B0 T0 s σ) : PF st1 (KRA B0 T0 s) (f_X4_takeReal_44 b t x1 y0 σ) := by
  unfold f_X4_takeReal_44
  exact (PF.ite (fun _ => (PF.ret1 h)) (fun _ => (PF.ret1 h)))
theorem wr_X4_takeReal_4 {B0 T0 : Nat} {s : ST} {b : Nat} {t : Nat}  (h_b : B0 = b) : ∀ (n : Nat) (x1 : Int64) (x2 : Int32) (σ : ST), KRA B0 T0 s σ → PF st1 (KRA B0 T0 s) (f_X4_takeReal_4 b t n x1 x2 σ) := by
  intro n
  induction n with
  | zero => intro x1 x2 σ h; rw [f_X4_takeReal_4]; exact PF.none
  | succ n ih =>
    intro x1 x2 σ h
    rw [f_X4_takeReal_4]
    exact (PF.ite (fun _ => (PF.ite (fun _ => (wr_X4_takeReal_44  h)) (fun _ => (wr_X4_takeReal_44  h)))) (fun _ => (PF.bnd (wr_X4_takeByte (by omega) h) (fun q1 hq1 => (ih _ _ _ hq1)))))
theorem wr_X4_takeReal {B0 T0 : Nat} {s : ST} {b : Nat} {t : Nat} {σ : ST}  (h_b : B0 = b) (h : KRA B0 T0 s σ) : PF st1 (KRA B0 T0 s) (f_X4_takeReal b t σ) := by
  unfold f_X4_takeReal
  exact (wr_X4_takeReal_4 (by omega) _ _ _ _ h)
theorem wr_X4_takeLetters_45 {B0 T0 : Nat} {s : ST} {k5 : Int32 → Int32 → Int64 → Int32 → ST → Option (Int64 × ST)} {b : Nat} {t : Nat} {x1 : Int32} {x2 : Int32} {x3 : Int64} {x5 : Int32} {x6 : Int32} {σ : ST} (h_k5 : ∀ (x1 : Int32) (x2 : Int32) (x3 : Int64) (x4 : Int32) (σ : ST), KRA B0 T0 s σ → PF st1 (KRA B0 T0 s) (k5 x1 x2 x3 x4 σ))  (h : KRA B0 T0 s σ) : PF st1 (KRA B0 T0 s) (f_X4_takeLetters_45 k5 b t x1 x2 x3 x5 x6 σ) := by
  unfold f_X4_takeLetters_45
  exact (PF.val (h_k5 _ _ _ _ _ h))
theorem wr_X4_takeLetters_38 {B0 T0 : Nat} {s : ST} {k5 : Int32 → Int32 → Int64 → Int32 → ST → Option (Int64 × ST)} {b : Nat} {t : Nat} {x1 : Int32} {x2 : Int32} {x3 : Int64} {x5 : Int32} {x6 : Int32} {σ : ST} (h_k5 : ∀ (x1 : Int32) (x2 : Int32) (x3 : Int64) (x4 : Int32) (σ : ST), KRA B0 T0 s σ → PF st1 (KRA B0 T0 s) (k5 x1 x2 x3 x4 σ)) (h_b : B0 = b) (h : KRA B0 T0 s σ) : PF st1 (KRA B0 T0 s) (f_X4_takeLetters_38 k5 b t x1 x2 x3 x5 x6 σ) := by
  unfold f_X4_takeLetters_38
  exact (PF.bnd (wr_X4_fail (by omega) h) (fun q1 hq1 => (wr_X4_takeLetters_45 h_k5 hq1)))
theorem wr_X4_takeLetters_5 {B0 T0 : Nat} {s : ST} {b : Nat} {t : Nat}  (h_b : B0 = b) : ∀ (n : Nat) (x1 : Int32) (x2 : Int32) (x3 : Int64) (x4 : Int32) (σ : ST), KRA B0 T0 s σ → PF st1 (KRA B0 T0 s) (f_X4_takeLetters_5 b t n x1 x2 x3 x4 σ) := by
  intro n
  induction n with
  | zero => intro x1 x2 x3 x4 σ h; rw [f_X4_takeLetters_5]; exact PF.none
  | succ n ih =>
    intro x1 x2 x3 x4 σ h
    rw [f_X4_takeLetters_5]
    exact (PF.ite (fun _ => (PF.ret1 h)) (fun _ => (PF.ite (fun _ => (PF.bnd (wr_X4_takeByte (by omega) h) (fun q1 hq1 => (PF.ite (fun _ => (wr_X4_takeLetters_38 ih (by omega) hq1)) (fun _ => (PF.ite (fun _ => (wr_X4_takeLetters_45 ih hq1)) (fun _ => (wr_X4_takeLetters_38 ih (by omega) hq1)))))))) (fun _ => (PF.ret1 h)))))
theorem wr_X4_takeLetters {B0 T0 : Nat} {s : ST} {b : Nat} {t : Nat} {p0 : Int32} {p1 : Int32} {σ : ST}  (h_b : B0 = b) (h : KRA B0 T0 s σ) : PF st1 (KRA B0 T0 s) (f_X4_takeLetters b t p0 p1 σ) := by
  unfold f_X4_takeLetters
  exact (wr_X4_takeLetters_5 (by omega) _ _ _ _ _ _ h)
theorem wr_X4_takePlain {B0 T0 : Nat} {s : ST} {b : Nat} {t : Nat} {p0 : Int32} {p1 : Int32} {p2 : Int32} {p3 : Int32} {σ : ST}  (h_b : B0 = b) (h_t : T0 = t) (h : KRA B0 T0 s σ) : PF st0 (KRA B0 T0 s) (f_X4_takePlain b t p0 p1 p2 p3 σ) := by
  unfold f_X4_takePlain
  exact (PF.ite (fun _ => (PF.bnd (wr_X4_takeByte (by omega) h) (fun q6 hq6 => (PF.ite (fun _ => (wr_X4_takePlain_137 (by omega) (by omega) hq6)) (fun _ => (PF.bnd (wr_X4_fail (by omega) hq6) (fun q8 hq8 => (wr_X4_takePlain_137 (by omega) (by omega) hq8)))))))) (fun _ => (PF.ite (fun _ => (PF.bnd (wr_X4_takeNumber (by omega) h) (fun q10 hq10 => (PF.ite (fun _ => (PF.bnd (wr_X10_isInt  hq10) (fun q12 hq12 => (PF.ite (fun _ => (PF.bnd (wr_X4_fail (by omega) hq12) (fun q14 hq14 => (wr_X4_takePlain_137 (by omega) (by omega) hq14)))) (fun _ => (wr_X4_takePlain_137 (by omega) (by omega) hq12)))))) (fun _ => (wr_X4_takePlain_137 (by omega) (by omega) hq10)))))) (fun _ => (PF.ite (fun _ => (PF.bnd (wr_X4_takeNumber (by omega) h) (fun q16 hq16 => (PF.ite (fun _ => (PF.bnd (wr_X10_isInt  hq16) (fun q18 hq18 => (PF.ite (fun _ => (PF.bnd (wr_X4_fail (by omega) hq18) (fun q20 hq20 => (wr_X4_takePlain_137 (by omega) (by omega) hq20)))) (fun _ => (wr_X4_takePlain_137 (by omega) (by omega) hq18)))))) (fun _ => (wr_X4_takePlain_137 (by omega) (by omega) hq16)))))) (fun _ => (PF.ite (fun _ => (PF.bnd (wr_X4_takeReal (by omega) h) (fun q22 hq22 => (wr_X4_takePlain_137 (by omega) (by omega) hq22)))) (fun _ => (PF.ite (fun _ => (PF.bnd (wr_X4_takeCount (by omega) h) (fun q24 hq24 => (PF.bnd (wr_X4_takeLetters (by omega) hq24) (fun q26 hq26 => (wr_X4_takePlain_137 (by omega) (by omega) hq26)))))) (fun _ => (wr_X4_takePlain_137 (by omega) (by omega) h)))))))))))
theorem wr_X4_takeOwn_26 {B0 T0 : Nat} {s : ST} {r_X4_take : Nat → Nat → Int32 → Int32 → Int32 → Int32 → Int32 → ST → Option (ST)} {r_X4_takeField : Nat → Nat → Int32 → Int32 → Int32 → Int32 → Int32 → ST → Option (ST)} {r_X4_takeList : Nat → Nat → Int32 → Int32 → Int32 → Int32 → Int32 → ST → Option (ST)} {r_X4_takeOwn : Nat → Nat → Int32 → Int32 → Int32 → Int32 → Int32 → ST → Option (ST)} {r_X4_takeRecord : Nat → Nat → Int32 → Int32 → Int32 → Int32 → Int32 → ST → Option (ST)} {b : Nat} {t : Nat} {x1 : Int32} {x3 : Int32} {x4 : Int32} {x5 : Int32} {y0 : Int32} {σ : ST} (h_r_X4_take : ∀ (x1 : Nat) (x2 : Nat) (x3 : Int32) (x4 : Int32) (x5 : Int32) (x6 : Int32) (x7 : Int32) (σ : ST), B0 = x1 → T0 = x2 → KRA B0 T0 s σ → PF st0 (KRA B0 T0 s) (r_X4_take x1 x2 x3 x4 x5 x6 x7 σ)) (h_r_X4_takeField : ∀ (x1 : Nat) (x2 : Nat) (x3 : Int32) (x4 : Int32) (x5 : Int32) (x6 : Int32) (x7 : Int32) (σ : ST), B0 = x1 → T0 = x2 → KRA B0 T0 s σ → PF st0 (KRA B0 T0 s) (r_X4_takeField x1 x2 x3 x4 x5 x6 x7 σ)) (h_r_X4_takeList : ∀ (x1 : Nat) (x2 : Nat) (x3 : Int32) (x4 : Int32) (x5 : Int32) (x6 : Int32) (x7 : Int32) (σ : ST), B0 = x1 → T0 = x2 → KRA B0 T0 s σ → PF st0 (KRA B0 T0 s) (r_X4_takeList x1 x2 x3 x4 x5 x6 x7 σ)) (h_r_X4_takeOwn : ∀ (x1 : Nat) (x2 : Nat) (x3 : Int32) (x4 : Int32) (x5 : Int32) (x6 : Int32) (x7 : Int32) (σ : ST), B0 = x1 → T0 = x2 → KRA B0 T0 s σ → PF st0 (KRA B0 T0 s) (r_X4_takeOwn x1 x2 x3 x4 x5 x6 x7 σ)) (h_r_X4_takeRecord : ∀ (x1 : Nat) (x2 : Nat) (x3 : Int32) (x4 : Int32) (x5 : Int32) (x6 : Int32) (x7 : Int32) (σ : ST), B0 = x1 → T0 = x2 → KRA B0 T0 s σ → PF st0 (KRA B0 T0 s) (r_X4_takeRecord x1 x2 x3 x4 x5 x6 x7 σ)) (h_b : B0 = b) (h_t : T0 = t) (h : KRA B0 T0 s σ) : PF st0 (KRA B0 T0 s) (f_X4_takeOwn_26 r_X4_take r_X4_takeField r_X4_takeList r_X4_takeOwn r_X4_takeRecord b t x1 x3 x4 x5 y0 σ) := by
  unfold f_X4_takeOwn_26
  exact (PF.bnd (wr_X5_sortOf  h) (fun q1 hq1 => (PF.ite (fun _ => (PF.bnd (wr_X5_innerOf  hq1) (fun q9 hq9 => (PF.bnd (h_r_X4_takeRecord _ _ _ _ _ _ _ _ (by omega) (by omega) hq9) (fun q11 hq11 => (PF.ret0 hq11)))))) (fun _ => (PF.ite (fun _ => (PF.bnd (wr_X5_innerOf  hq1) (fun q5 hq5 => (PF.bnd (h_r_X4_takeList _ _ _ _ _ _ _ _ (by omega) (by omega) hq5) (fun q7 hq7 => (PF.ret0 hq7)))))) (fun _ => (PF.bnd (wr_X4_takePlain (by omega) (by omega) hq1) (fun q3 hq3 => (PF.ret0 hq3)))))))))
theorem wr_X4_takeOwn {B0 T0 : Nat} {s : ST} {r_X4_take : Nat → Nat → Int32 → Int32 → Int32 → Int32 → Int32 → ST → Option (ST)} {r_X4_takeField : Nat → Nat → Int32 → Int32 → Int32 → Int32 → Int32 → ST → Option (ST)} {r_X4_takeList : Nat → Nat → Int32 → Int32 → Int32 → Int32 → Int32 → ST → Option (ST)} {r_X4_takeOwn : Nat → Nat → Int32 → Int32 → Int32 → Int32 → Int32 → ST → Option (ST)} {r_X4_takeRecord : Nat → Nat → Int32 → Int32 → Int32 → Int32 → Int32 → ST → Option (ST)} {b : Nat} {t : Nat} {p0 : Int32} {p1 : Int32} {p2 : Int32} {p3 : Int32} {p4 : Int32} {σ : ST} (h_r_X4_take : ∀ (x1 : Nat) (x2 : Nat) (x3 : Int32) (x4 : Int32) (x5 : Int32) (x6 : Int32) (x7 : Int32) (σ : ST), B0 = x1 → T0 = x2 → KRA B0 T0 s σ → PF st0 (KRA B0 T0 s) (r_X4_take x1 x2 x3 x4 x5 x6 x7 σ)) (h_r_X4_takeField : ∀ (x1 : Nat) (x2 : Nat) (x3 : Int32) (x4 : Int32) (x5 : Int32) (x6 : Int32) (x7 : Int32) (σ : ST), B0 = x1 → T0 = x2 → KRA B0 T0 s σ → PF st0 (KRA B0 T0 s) (r_X4_takeField x1 x2 x3 x4 x5 x6 x7 σ)) (h_r_X4_takeList : ∀ (x1 : Nat) (x2 : Nat) (x3 : Int32) (x4 : Int32) (x5 : Int32) (x6 : Int32) (x7 : Int32) (σ : ST), B0 = x1 → T0 = x2 → KRA B0 T0 s σ → PF st0 (KRA B0 T0 s) (r_X4_takeList x1 x2 x3 x4 x5 x6 x7 σ)) (h_r_X4_takeOwn : ∀ (x1 : Nat) (x2 : Nat) (x3 : Int32) (x4 : Int32) (x5 : Int32) (x6 : Int32) (x7 : Int32) (σ : ST), B0 = x1 → T0 = x2 → KRA B0 T0 s σ → PF st0 (KRA B0 T0 s) (r_X4_takeOwn x1 x2 x3 x4 x5 x6 x7 σ)) (h_r_X4_takeRecord : ∀ (x1 : Nat) (x2 : Nat) (x3 : Int32) (x4 : Int32) (x5 : Int32) (x6 : Int32) (x7 : Int32) (σ : ST), B0 = x1 → T0 = x2 → KRA B0 T0 s σ → PF st0 (KRA B0 T0 s) (r_X4_takeRecord x1 x2 x3 x4 x5 x6 x7 σ)) (h_b : B0 = b) (h_t : T0 = t) (h : KRA B0 T0 s σ) : PF st0 (KRA B0 T0 s) (f_X4_takeOwn r_X4_take r_X4_takeField r_X4_takeList r_X4_takeOwn r_X4_takeRecord b t p0 p1 p2 p3 p4 σ) := by
  unfold f_X4_takeOwn
  exact (PF.bnd (wr_X5_sortOf  h) (fun q1 hq1 => (PF.ite (fun _ => (PF.bnd (wr_X0_chosen  hq1) (fun q3 hq3 => (wr_X4_takeOwn_26 h_r_X4_take h_r_X4_takeField h_r_X4_takeList h_r_X4_takeOwn h_r_X4_takeRecord (by omega) (by omega) hq3)))) (fun _ => (wr_X4_takeOwn_26 h_r_X4_take h_r_X4_takeField h_r_X4_takeList h_r_X4_takeOwn h_r_X4_takeRecord (by omega) (by omega) hq1)))))
theorem wr_X4_findSources_56 {B0 T0 : Nat} {s : ST} {k3 : Int32 → Int32 → Int32 → Int32 → ST → Option (ST)} {b : Nat} {t : Nat} {x1 : Int32} {x2 : Int32} {x3 : Int32} {x4 : Int32} {σ : ST} (h_k3 : ∀ (x1 : Int32) (x2 : Int32) (x3 : Int32) (x4 : Int32) (σ : ST), KRA B0 T0 s σ → PF st0 (KRA B0 T0 s) (k3 x1 x2 x3 x4 σ))  (h : KRA B0 T0 s σ) : PF st0 (KRA B0 T0 s) (f_X4_findSources_56 k3 b t x1 x2 x3 x4 σ) := by
  unfold f_X4_findSources_56
  exact (h_k3 _ _ _ _ _ h)
theorem wr_X5_fieldName {B0 T0 : Nat} {s : ST} {b : Nat} {p0 : Int32} {p1 : Int32} {σ : ST}   (h : KRA B0 T0 s σ) : PF st1 (KRA B0 T0 s) (f_X5_fieldName b p0 p1 σ) := by
  unfold f_X5_fieldName
  exact (PF.bnd (wr_X5_isFieldOf  h) (fun q1 hq1 => (PF.ite (fun _ => (PF.ret1 hq1)) (fun _ => (PF.ite (fun _ => (PF.ret1 hq1)) (fun _ => PF.none))))))
theorem wr_X5_fieldNamed_29 {B0 T0 : Nat} {s : ST} {b : Nat}   : ∀ (n : Nat) (x1 : Int64) (x2 : Int32) (x3 : Int32) (x4 : Int32) (σ : ST), KRA B0 T0 s σ → PF st1 (KRA B0 T0 s) (f_X5_fieldNamed_29 b n x1 x2 x3 x4 σ) := by
  intro n
  induction n with
  | zero => intro x1 x2 x3 x4 σ h; rw [f_X5_fieldNamed_29]; exact PF.none
  | succ n ih =>
    intro x1 x2 x3 x4 σ h
    rw [f_X5_fieldNamed_29]
    exact (PF.ite (fun _ => (PF.ret1 h)) (fun _ => (PF.ite (fun _ => (PF.ret1 h)) (fun _ => (PF.ite (fun _ => (PF.ite (fun _ => (PF.ret1 h)) (fun _ => (ih _ _ _ _ _ h)))) (fun _ => PF.none))))))
theorem wr_X5_fieldNamed_24 {B0 T0 : Nat} {s : ST} {b : Nat} {x2 : Int64} {x4 : Int32} {y0 : Int32} {σ : ST}   (h : KRA B0 T0 s σ) : PF st1 (KRA B0 T0 s) (f_X5_fieldNamed_24 b x2 x4 y0 σ) := by
  unfold f_X5_fieldNamed_24
  exact (wr_X5_fieldNamed_29  _ _ _ _ _ _ h)
theorem wr_X5_fieldNamed {B0 T0 : Nat} {s : ST} {b : Nat} {p0 : Int32} {p1 : Int64} {σ : ST}   (h : KRA B0 T0 s σ) : PF st1 (KRA B0 T0 s) (f_X5_fieldNamed b p0 p1 σ) := by
  unfold f_X5_fieldNamed
  exact (PF.bnd (wr_X5_isFieldOf  h) (fun q1 hq1 => (PF.ite (fun _ => (wr_X5_fieldNamed_24  hq1)) (fun _ => (PF.ite (fun _ => (wr_X5_fieldNamed_24  hq1)) (fun _ => PF.none))))))
theorem wr_X5_formerName {B0 T0 : Nat} {s : ST} {b : Nat} {p0 : Int32} {p1 : Int32} {σ : ST}   (h : KRA B0 T0 s σ) : PF st1 (KRA B0 T0 s) (f_X5_formerName b p0 p1 σ) := by
  unfold f_X5_formerName
  exact (PF.bnd (wr_X5_isFieldOf  h) (fun q1 hq1 => (PF.ite (fun _ => (PF.ret1 hq1)) (fun _ => (PF.ite (fun _ => (PF.ret1 hq1)) (fun _ => PF.none))))))
theorem wr_X5_sourceOf {B0 T0 : Nat} {s : ST} {b : Nat} {p0 : Int32} {p1 : Int32} {p2 : Int32} {σ : ST}   (h : KRA B0 T0 s σ) : PF st1 (KRA B0 T0 s) (f_X5_sourceOf b p0 p1 p2 σ) := by
  unfold f_X5_sourceOf
  exact (PF.bnd (wr_X5_fieldName  h) (fun q1 hq1 => (PF.bnd (wr_X5_fieldNamed  hq1) (fun q3 hq3 => (PF.bnd (wr_X5_formerName  hq3) (fun q5 hq5 => (PF.ite (fun _ => (PF.ite (fun _ => (PF.ret1 hq5)) (fun _ => (PF.bnd (wr_X5_fieldNamed  hq5) (fun q7 hq7 => (PF.ret1 hq7)))))) (fun _ => (PF.ret1 hq5)))))))))
theorem wr_X4_findSources_3 {B0 T0 : Nat} {s : ST} {b : Nat} {t : Nat}  (h_b : B0 = b) : ∀ (n : Nat) (x1 : Int32) (x2 : Int32) (x3 : Int32) (x4 : Int32) (σ : ST), KRA B0 T0 s σ → PF st0 (KRA B0 T0 s) (f_X4_findSources_3 b t n x1 x2 x3 x4 σ) := by
  intro n
  induction n with
  | zero => intro x1 x2 x3 x4 σ h; rw [f_X4_findSources_3]; exact PF.none
  | succ n ih =>
    intro x1 x2 x3 x4 σ h
    rw [f_X4_findSources_3]
    exact (PF.bnd (wr_X5_fieldsOf  h) (fun q1 hq1 => (PF.ite (fun _ => (PF.ret0 hq1)) (fun _ => (PF.ite (fun _ => (wr_X4_findSources_56 ih hq1)) (fun _ => (PF.ite (fun _ => (wr_X4_findSources_56 ih hq1)) (fun _ => (PF.ite (fun _ => (wr_X4_findSources_56 ih hq1)) (fun _ => (PF.bnd (wr_X5_sourceOf  hq1) (fun q3 hq3 => (PF.ite (fun _ => (wr_X4_findSources_56 ih (KRA.i (by omega) hq3))) (fun _ => PF.none))))))))))))))
theorem wr_X4_findSources {B0 T0 : Nat} {s : ST} {b : Nat} {t : Nat} {p0 : Int32} {p1 : Int32} {p2 : Int32} {σ : ST}  (h_b : B0 = b) (h : KRA B0 T0 s σ) : PF st0 (KRA B0 T0 s) (f_X4_findSources b t p0 p1 p2 σ) := by
  unfold f_X4_findSources
  exact (wr_X4_findSources_3 (by omega) _ _ _ _ _ _ h)
theorem wr_X5_firstChoice {B0 T0 : Nat} {s : ST} {b : Nat} {p0 : Int32} {σ : ST}   (h : KRA B0 T0 s σ) : PF st1 (KRA B0 T0 s) (f_X5_firstChoice b p0 σ) := by
  unfold f_X5_firstChoice
  exact (PF.bnd (wr_X5_sortOf  h) (fun q1 hq1 => (PF.ite (fun _ => (PF.bnd (wr_X5_innerOf  hq1) (fun q3 hq3 => (PF.ret1 hq3)))) (fun _ => (PF.ret1 hq1)))))
theorem wr_X5_elseWorth {B0 T0 : Nat} {s : ST} {b : Nat} {p0 : Int32} {p1 : Int32} {σ : ST}   (h : KRA B0 T0 s σ) : PF st1 (KRA B0 T0 s) (f_X5_elseWorth b p0 p1 σ) := by
  unfold f_X5_elseWorth
  exact (PF.bnd (wr_X5_isFieldOf  h) (fun q1 hq1 => (PF.ite (fun _ => (PF.ret1 hq1)) (fun _ => (PF.ite (fun _ => (PF.ret1 hq1)) (fun _ => PF.none))))))
theorem wr_X10_letterOf_10 {B0 T0 : Nat} {s : ST}  {σ : ST}   (h : KRA B0 T0 s σ) : PF st1 (KRA B0 T0 s) (f_X10_letterOf_10 σ) := by
  unfold f_X10_letterOf_10
  exact (PF.ret1 h)
theorem wr_X10_letterOf {B0 T0 : Nat} {s : ST} {p0 : Int64} {p1 : Int32} {σ : ST}   (h : KRA B0 T0 s σ) : PF st1 (KRA B0 T0 s) (f_X10_letterOf p0 p1 σ) := by
  unfold f_X10_letterOf
  exact (PF.ite (fun _ => (wr_X10_letterOf_10  h)) (fun _ => (PF.ite (fun _ => (PF.ret1 h)) (fun _ => (wr_X10_letterOf_10  h)))))
theorem wr_X10_lettersIn_2 {B0 T0 : Nat} {s : ST}    : ∀ (n : Nat) (x1 : Int64) (x2 : Int32) (σ : ST), KRA B0 T0 s σ → PF st1 (KRA B0 T0 s) (f_X10_lettersIn_2  n x1 x2 σ) := by
  intro n
  induction n with
  | zero => intro x1 x2 σ h; rw [f_X10_lettersIn_2]; exact PF.none
  | succ n ih =>
    intro x1 x2 σ h
    rw [f_X10_lettersIn_2]
    exact (PF.ite (fun _ => (PF.ret1 h)) (fun _ => (PF.bnd (wr_X10_letterOf  h) (fun q1 hq1 => (PF.ite (fun _ => (PF.ret1 hq1)) (fun _ => (ih _ _ _ hq1)))))))
theorem wr_X10_lettersIn {B0 T0 : Nat} {s : ST} {p0 : Int64} {σ : ST}   (h : KRA B0 T0 s σ) : PF st1 (KRA B0 T0 s) (f_X10_lettersIn p0 σ) := by
  unfold f_X10_lettersIn
  exact (wr_X10_lettersIn_2  _ _ _ _ h)
theorem wr_X7_setFilled {B0 T0 : Nat} {s : ST} {b : Nat} {p0 : Int32} {σ : ST}  (h_b : T0 = b) (h : KRA B0 T0 s σ) : PF st0 (KRA B0 T0 s) (f_X7_setFilled b p0 σ) := by
  unfold f_X7_setFilled
  exact (PF.bnd (wr_X7_isRow  h) (fun q1 hq1 => (PF.ite (fun _ => (PF.ret0 hq1)) (fun _ => (PF.ite (fun _ => (PF.ret0 (KRA.i (by omega) hq1))) (fun _ => PF.none))))))
theorem wr_X4_fillIn_51 {B0 T0 : Nat} {s : ST} {b : Nat} {t : Nat} {x2 : Int32} {x3 : Int32} {x4 : Int32} {x5 : Int64} {y0 : Int32} {σ : ST}  (h_b : B0 = b) (h_t : T0 = t) (h : KRA B0 T0 s σ) : PF st0 (KRA B0 T0 s) (f_X4_fillIn_51 b t x2 x3 x4 x5 y0 σ) := by
  unfold f_X4_fillIn_51
  exact (PF.ite (fun _ => (PF.bnd (wr_X4_addNode (by omega) (by omega) h) (fun q2 hq2 => (PF.bnd (wr_X7_setFilled (by omega) hq2) (fun q4 hq4 => (PF.ret0 hq4)))))) (fun _ => PF.none))
theorem wr_X4_fillIn {B0 T0 : Nat} {s : ST} {b : Nat} {t : Nat} {p0 : Int32} {p1 : Int32} {p2 : Int32} {σ : ST}  (h_b : B0 = b) (h_t : T0 = t) (h : KRA B0 T0 s σ) : PF st0 (KRA B0 T0 s) (f_X4_fillIn b t p0 p1 p2 σ) := by
  unfold f_X4_fillIn
  exact (PF.bnd (wr_X5_typeOf  h) (fun q1 hq1 => (PF.bnd (wr_X5_firstChoice  hq1) (fun q3 hq3 => (PF.bnd (wr_X5_elseWorth  hq3) (fun q5 hq5 => (PF.bnd (wr_X5_sortOf  hq5) (fun q7 hq7 => (PF.ite (fun _ => (PF.bnd (wr_X10_lettersIn  hq7) (fun q9 hq9 => (wr_X4_fillIn_51 (by omega) (by omega) hq9)))) (fun _ => (wr_X4_fillIn_51 (by omega) (by omega) hq7)))))))))))
theorem wr_X4_takeRecord_155 {B0 T0 : Nat} {s : ST} {r_X4_take : Nat → Nat → Int32 → Int32 → Int32 → Int32 → Int32 → ST → Option (ST)} {r_X4_takeField : Nat → Nat → Int32 → Int32 → Int32 → Int32 → Int32 → ST → Option (ST)} {r_X4_takeList : Nat → Nat → Int32 → Int32 → Int32 → Int32 → Int32 → ST → Option (ST)} {r_X4_takeOwn : Nat → Nat → Int32 → Int32 → Int32 → Int32 → Int32 → ST → Option (ST)} {r_X4_takeRecord : Nat → Nat → Int32 → Int32 → Int32 → Int32 → Int32 → ST → Option (ST)} {k112 : Int32 → Int32 → Int32 → Int32 → ST → Option (ST)} {b : Nat} {t : Nat} {x5 : Int32} {x6 : Int32} {x7 : Int32} {x8 : Int32} {σ : ST} (h_r_X4_take : ∀ (x1 : Nat) (x2 : Nat) (x3 : Int32) (x4 : Int32) (x5 : Int32) (x6 : Int32) (x7 : Int32) (σ : ST), B0 = x1 → T0 = x2 → KRA B0 T0 s σ → PF st0 (KRA B0 T0 s) (r_X4_take x1 x2 x3 x4 x5 x6 x7 σ)) (h_r_X4_takeField : ∀ (x1 : Nat) (x2 : Nat) (x3 : Int32) (x4 : Int32) (x5 : Int32) (x6 : Int32) (x7 : Int32) (σ : ST), B0 = x1 → T0 = x2 → KRA B0 T0 s σ → PF st0 (KRA B0 T0 s) (r_X4_takeField x1 x2 x3 x4 x5 x6 x7 σ)) (h_r_X4_takeList : ∀ (x1 : Nat) (x2 : Nat) (x3 : Int32) (x4 : Int32) (x5 : Int32) (x6 : Int32) (x7 : Int32) (σ : ST), B0 = x1 → T0 = x2 → KRA B0 T0 s σ → PF st0 (KRA B0 T0 s) (r_X4_takeList x1 x2 x3 x4 x5 x6 x7 σ)) (h_r_X4_takeOwn : ∀ (x1 : Nat) (x2 : Nat) (x3 : Int32) (x4 : Int32) (x5 : Int32) (x6 : Int32) (x7 : Int32) (σ : ST), B0 = x1 → T0 = x2 → KRA B0 T0 s σ → PF st0 (KRA B0 T0 s) (r_X4_takeOwn x1 x2 x3 x4 x5 x6 x7 σ)) (h_r_X4_takeRecord : ∀ (x1 : Nat) (x2 : Nat) (x3 : Int32) (x4 : Int32) (x5 : Int32) (x6 : Int32) (x7 : Int32) (σ : ST), B0 = x1 → T0 = x2 → KRA B0 T0 s σ → PF st0 (KRA B0 T0 s) (r_X4_takeRecord x1 x2 x3 x4 x5 x6 x7 σ)) (h_k112 : ∀ (x1 : Int32) (x2 : Int32) (x3 : Int32) (x4 : Int32) (σ : ST), KRA B0 T0 s σ → PF st0 (KRA B0 T0 s) (k112 x1 x2 x3 x4 σ))  (h : KRA B0 T0 s σ) : PF st0 (KRA B0 T0 s) (f_X4_takeRecord_155 r_X4_take r_X4_takeField r_X4_takeList r_X4_takeOwn r_X4_takeRecord k112 b t x5 x6 x7 x8 σ) := by
  unfold f_X4_takeRecord_155
  exact (h_k112 _ _ _ _ _ h)
theorem wr_X4_takeRecord_112 {B0 T0 : Nat} {s : ST} {r_X4_take : Nat → Nat → Int32 → Int32 → Int32 → Int32 → Int32 → ST → Option (ST)} {r_X4_takeField : Nat → Nat → Int32 → Int32 → Int32 → Int32 → Int32 → ST → Option (ST)} {r_X4_takeList : Nat → Nat → Int32 → Int32 → Int32 → Int32 → Int32 → ST → Option (ST)} {r_X4_takeOwn : Nat → Nat → Int32 → Int32 → Int32 → Int32 → Int32 → ST → Option (ST)} {r_X4_takeRecord : Nat → Nat → Int32 → Int32 → Int32 → Int32 → Int32 → ST → Option (ST)} {b : Nat} {t : Nat} (h_r_X4_take : ∀ (x1 : Nat) (x2 : Nat) (x3 : Int32) (x4 : Int32) (x5 : Int32) (x6 : Int32) (x7 : Int32) (σ : ST), B0 = x1 → T0 = x2 → KRA B0 T0 s σ → PF st0 (KRA B0 T0 s) (r_X4_take x1 x2 x3 x4 x5 x6 x7 σ)) (h_r_X4_takeField : ∀ (x1 : Nat) (x2 : Nat) (x3 : Int32) (x4 : Int32) (x5 : Int32) (x6 : Int32) (x7 : Int32) (σ : ST), B0 = x1 → T0 = x2 → KRA B0 T0 s σ → PF st0 (KRA B0 T0 s) (r_X4_takeField x1 x2 x3 x4 x5 x6 x7 σ)) (h_r_X4_takeList : ∀ (x1 : Nat) (x2 : Nat) (x3 : Int32) (x4 : Int32) (x5 : Int32) (x6 : Int32) (x7 : Int32) (σ : ST), B0 = x1 → T0 = x2 → KRA B0 T0 s σ → PF st0 (KRA B0 T0 s) (r_X4_takeList x1 x2 x3 x4 x5 x6 x7 σ)) (h_r_X4_takeOwn : ∀ (x1 : Nat) (x2 : Nat) (x3 : Int32) (x4 : Int32) (x5 : Int32) (x6 : Int32) (x7 : Int32) (σ : ST), B0 = x1 → T0 = x2 → KRA B0 T0 s σ → PF st0 (KRA B0 T0 s) (r_X4_takeOwn x1 x2 x3 x4 x5 x6 x7 σ)) (h_r_X4_takeRecord : ∀ (x1 : Nat) (x2 : Nat) (x3 : Int32) (x4 : Int32) (x5 : Int32) (x6 : Int32) (x7 : Int32) (σ : ST), B0 = x1 → T0 = x2 → KRA B0 T0 s σ → PF st0 (KRA B0 T0 s) (r_X4_takeRecord x1 x2 x3 x4 x5 x6 x7 σ)) (h_b : B0 = b) (h_t : T0 = t) : ∀ (n : Nat) (x1 : Int32) (x2 : Int32) (x3 : Int32) (x4 : Int32) (σ : ST), KRA B0 T0 s σ → PF st0 (KRA B0 T0 s) (f_X4_takeRecord_112 r_X4_take r_X4_takeField r_X4_takeList r_X4_takeOwn r_X4_takeRecord b t n x1 x2 x3 x4 σ) := by
  intro n
  induction n with
  | zero => intro x1 x2 x3 x4 σ h; rw [f_X4_takeRecord_112]; exact PF.none
  | succ n ih =>
    intro x1 x2 x3 x4 σ h
    rw [f_X4_takeRecord_112]
    exact (PF.bnd (wr_X5_fieldsOf  h) (fun q1 hq1 => (PF.ite (fun _ => (PF.ret0 hq1)) (fun _ => (PF.ite (fun _ => (PF.bnd (wr_X4_sourceAt  hq1) (fun q3 hq3 => (PF.ite (fun _ => (PF.bnd (wr_X4_fillIn (by omega) (by omega) hq3) (fun q5 hq5 => (wr_X4_takeRecord_155 h_r_X4_take h_r_X4_takeField h_r_X4_takeList h_r_X4_takeOwn h_r_X4_takeRecord ih hq5)))) (fun _ => (wr_X4_takeRecord_155 h_r_X4_take h_r_X4_takeField h_r_X4_takeList h_r_X4_takeOwn h_r_X4_takeRecord ih hq3)))))) (fun _ => (PF.ret0 hq1)))))))
theorem wr_X4_takeRecord_109 {B0 T0 : Nat} {s : ST} {r_X4_take : Nat → Nat → Int32 → Int32 → Int32 → Int32 → Int32 → ST → Option (ST)} {r_X4_takeField : Nat → Nat → Int32 → Int32 → Int32 → Int32 → Int32 → ST → Option (ST)} {r_X4_takeList : Nat → Nat → Int32 → Int32 → Int32 → Int32 → Int32 → ST → Option (ST)} {r_X4_takeOwn : Nat → Nat → Int32 → Int32 → Int32 → Int32 → Int32 → ST → Option (ST)} {r_X4_takeRecord : Nat → Nat → Int32 → Int32 → Int32 → Int32 → Int32 → ST → Option (ST)} {b : Nat} {t : Nat} {x5 : Int32} {x6 : Int32} {x7 : Int32} {σ : ST} (h_r_X4_take : ∀ (x1 : Nat) (x2 : Nat) (x3 : Int32) (x4 : Int32) (x5 : Int32) (x6 : Int32) (x7 : Int32) (σ : ST), B0 = x1 → T0 = x2 → KRA B0 T0 s σ → PF st0 (KRA B0 T0 s) (r_X4_take x1 x2 x3 x4 x5 x6 x7 σ)) (h_r_X4_takeField : ∀ (x1 : Nat) (x2 : Nat) (x3 : Int32) (x4 : Int32) (x5 : Int32) (x6 : Int32) (x7 : Int32) (σ : ST), B0 = x1 → T0 = x2 → KRA B0 T0 s σ → PF st0 (KRA B0 T0 s) (r_X4_takeField x1 x2 x3 x4 x5 x6 x7 σ)) (h_r_X4_takeList : ∀ (x1 : Nat) (x2 : Nat) (x3 : Int32) (x4 : Int32) (x5 : Int32) (x6 : Int32) (x7 : Int32) (σ : ST), B0 = x1 → T0 = x2 → KRA B0 T0 s σ → PF st0 (KRA B0 T0 s) (r_X4_takeList x1 x2 x3 x4 x5 x6 x7 σ)) (h_r_X4_takeOwn : ∀ (x1 : Nat) (x2 : Nat) (x3 : Int32) (x4 : Int32) (x5 : Int32) (x6 : Int32) (x7 : Int32) (σ : ST), B0 = x1 → T0 = x2 → KRA B0 T0 s σ → PF st0 (KRA B0 T0 s) (r_X4_takeOwn x1 x2 x3 x4 x5 x6 x7 σ)) (h_r_X4_takeRecord : ∀ (x1 : Nat) (x2 : Nat) (x3 : Int32) (x4 : Int32) (x5 : Int32) (x6 : Int32) (x7 : Int32) (σ : ST), B0 = x1 → T0 = x2 → KRA B0 T0 s σ → PF st0 (KRA B0 T0 s) (r_X4_takeRecord x1 x2 x3 x4 x5 x6 x7 σ)) (h_b : B0 = b) (h_t : T0 = t) (h : KRA B0 T0 s σ) : PF st0 (KRA B0 T0 s) (f_X4_takeRecord_109 r_X4_take r_X4_takeField r_X4_takeList r_X4_takeOwn r_X4_takeRecord b t x5 x6 x7 σ) := by
  unfold f_X4_takeRecord_109
  exact (wr_X4_takeRecord_112 h_r_X4_take h_r_X4_takeField h_r_X4_takeList h_r_X4_takeOwn h_r_X4_takeRecord (by omega) (by omega) _ _ _ _ _ _ h)
theorem wr_X4_takeRecord_51 {B0 T0 : Nat} {s : ST} {r_X4_take : Nat → Nat → Int32 → Int32 → Int32 → Int32 → Int32 → ST → Option (ST)} {r_X4_takeField : Nat → Nat → Int32 → Int32 → Int32 → Int32 → Int32 → ST → Option (ST)} {r_X4_takeList : Nat → Nat → Int32 → Int32 → Int32 → Int32 → Int32 → ST → Option (ST)} {r_X4_takeOwn : Nat → Nat → Int32 → Int32 → Int32 → Int32 → Int32 → ST → Option (ST)} {r_X4_takeRecord : Nat → Nat → Int32 → Int32 → Int32 → Int32 → Int32 → ST → Option (ST)} {b : Nat} {t : Nat} (h_r_X4_take : ∀ (x1 : Nat) (x2 : Nat) (x3 : Int32) (x4 : Int32) (x5 : Int32) (x6 : Int32) (x7 : Int32) (σ : ST), B0 = x1 → T0 = x2 → KRA B0 T0 s σ → PF st0 (KRA B0 T0 s) (r_X4_take x1 x2 x3 x4 x5 x6 x7 σ)) (h_r_X4_takeField : ∀ (x1 : Nat) (x2 : Nat) (x3 : Int32) (x4 : Int32) (x5 : Int32) (x6 : Int32) (x7 : Int32) (σ : ST), B0 = x1 → T0 = x2 → KRA B0 T0 s σ → PF st0 (KRA B0 T0 s) (r_X4_takeField x1 x2 x3 x4 x5 x6 x7 σ)) (h_r_X4_takeList : ∀ (x1 : Nat) (x2 : Nat) (x3 : Int32) (x4 : Int32) (x5 : Int32) (x6 : Int32) (x7 : Int32) (σ : ST), B0 = x1 → T0 = x2 → KRA B0 T0 s σ → PF st0 (KRA B0 T0 s) (r_X4_takeList x1 x2 x3 x4 x5 x6 x7 σ)) (h_r_X4_takeOwn : ∀ (x1 : Nat) (x2 : Nat) (x3 : Int32) (x4 : Int32) (x5 : Int32) (x6 : Int32) (x7 : Int32) (σ : ST), B0 = x1 → T0 = x2 → KRA B0 T0 s σ → PF st0 (KRA B0 T0 s) (r_X4_takeOwn x1 x2 x3 x4 x5 x6 x7 σ)) (h_r_X4_takeRecord : ∀ (x1 : Nat) (x2 : Nat) (x3 : Int32) (x4 : Int32) (x5 : Int32) (x6 : Int32) (x7 : Int32) (σ : ST), B0 = x1 → T0 = x2 → KRA B0 T0 s σ → PF st0 (KRA B0 T0 s) (r_X4_takeRecord x1 x2 x3 x4 x5 x6 x7 σ)) (h_b : B0 = b) (h_t : T0 = t) : ∀ (n : Nat) (x1 : Int32) (x2 : Int32) (x3 : Int32) (x4 : Int32) (x5 : Int32) (σ : ST), KRA B0 T0 s σ → PF st0 (KRA B0 T0 s) (f_X4_takeRecord_51 r_X4_take r_X4_takeField r_X4_takeList r_X4_takeOwn r_X4_takeRecord b t n x1 x2 x3 x4 x5 σ) := by
  intro n
  induction n with
  | zero => intro x1 x2 x3 x4 x5 σ h; rw [f_X4_takeRecord_51]; exact PF.none
  | succ n ih =>
    intro x1 x2 x3 x4 x5 σ h
    rw [f_X4_takeRecord_51]
    exact (PF.bnd (wr_X5_fieldsOf  h) (fun q1 hq1 => (PF.ite (fun _ => (wr_X4_takeRecord_109 h_r_X4_take h_r_X4_takeField h_r_X4_takeList h_r_X4_takeOwn h_r_X4_takeRecord (by omega) (by omega) hq1)) (fun _ => (PF.ite (fun _ => (PF.bnd (wr_X4_step (by omega) hq1) (fun q3 hq3 => (PF.bnd (wr_X5_typeOf  hq3) (fun q5 hq5 => (PF.bnd (h_r_X4_takeField _ _ _ _ _ _ _ _ (by omega) (by omega) hq5) (fun q7 hq7 => (PF.bnd (wr_X4_stepBack (by omega) hq7) (fun q9 hq9 => (ih _ _ _ _ _ _ hq9)))))))))) (fun _ => (wr_X4_takeRecord_109 h_r_X4_take h_r_X4_takeField h_r_X4_takeList h_r_X4_takeOwn h_r_X4_takeRecord (by omega) (by omega) hq1)))))))
theorem wr_X4_takeRecord_17 {B0 T0 : Nat} {s : ST} {r_X4_take : Nat → Nat → Int32 → Int32 → Int32 → Int32 → Int32 → ST → Option (ST)} {r_X4_takeField : Nat → Nat → Int32 → Int32 → Int32 → Int32 → Int32 → ST → Option (ST)} {r_X4_takeList : Nat → Nat → Int32 → Int32 → Int32 → Int32 → Int32 → ST → Option (ST)} {r_X4_takeOwn : Nat → Nat → Int32 → Int32 → Int32 → Int32 → Int32 → ST → Option (ST)} {r_X4_takeRecord : Nat → Nat → Int32 → Int32 → Int32 → Int32 → Int32 → ST → Option (ST)} {b : Nat} {t : Nat} {x1 : Int32} {x2 : Int32} {x3 : Int32} {x4 : Int32} {x5 : Int32} {y0 : Int32} {σ : ST} (h_r_X4_take : ∀ (x1 : Nat) (x2 : Nat) (x3 : Int32) (x4 : Int32) (x5 : Int32) (x6 : Int32) (x7 : Int32) (σ : ST), B0 = x1 → T0 = x2 → KRA B0 T0 s σ → PF st0 (KRA B0 T0 s) (r_X4_take x1 x2 x3 x4 x5 x6 x7 σ)) (h_r_X4_takeField : ∀ (x1 : Nat) (x2 : Nat) (x3 : Int32) (x4 : Int32) (x5 : Int32) (x6 : Int32) (x7 : Int32) (σ : ST), B0 = x1 → T0 = x2 → KRA B0 T0 s σ → PF st0 (KRA B0 T0 s) (r_X4_takeField x1 x2 x3 x4 x5 x6 x7 σ)) (h_r_X4_takeList : ∀ (x1 : Nat) (x2 : Nat) (x3 : Int32) (x4 : Int32) (x5 : Int32) (x6 : Int32) (x7 : Int32) (σ : ST), B0 = x1 → T0 = x2 → KRA B0 T0 s σ → PF st0 (KRA B0 T0 s) (r_X4_takeList x1 x2 x3 x4 x5 x6 x7 σ)) (h_r_X4_takeOwn : ∀ (x1 : Nat) (x2 : Nat) (x3 : Int32) (x4 : Int32) (x5 : Int32) (x6 : Int32) (x7 : Int32) (σ : ST), B0 = x1 → T0 = x2 → KRA B0 T0 s σ → PF st0 (KRA B0 T0 s) (r_X4_takeOwn x1 x2 x3 x4 x5 x6 x7 σ)) (h_r_X4_takeRecord : ∀ (x1 : Nat) (x2 : Nat) (x3 : Int32) (x4 : Int32) (x5 : Int32) (x6 : Int32) (x7 : Int32) (σ : ST), B0 = x1 → T0 = x2 → KRA B0 T0 s σ → PF st0 (KRA B0 T0 s) (r_X4_takeRecord x1 x2 x3 x4 x5 x6 x7 σ)) (h_b : B0 = b) (h_t : T0 = t) (h : KRA B0 T0 s σ) : PF st0 (KRA B0 T0 s) (f_X4_takeRecord_17 r_X4_take r_X4_takeField r_X4_takeList r_X4_takeOwn r_X4_takeRecord b t x1 x2 x3 x4 x5 y0 σ) := by
  unfold f_X4_takeRecord_17
  exact (PF.bnd (wr_X5_fieldsOf  h) (fun q1 hq1 => (PF.bnd (wr_X4_addNode (by omega) (by omega) hq1) (fun q3 hq3 => (PF.bnd (wr_X4_findSources (by omega) hq3) (fun q5 hq5 => (wr_X4_takeRecord_51 h_r_X4_take h_r_X4_takeField h_r_X4_takeList h_r_X4_takeOwn h_r_X4_takeRecord (by omega) (by omega) _ _ _ _ _ _ _ hq5)))))))
theorem wr_X4_takeRecord {B0 T0 : Nat} {s : ST} {r_X4_take : Nat → Nat → Int32 → Int32 → Int32 → Int32 → Int32 → ST → Option (ST)} {r_X4_takeField : Nat → Nat → Int32 → Int32 → Int32 → Int32 → Int32 → ST → Option (ST)} {r_X4_takeList : Nat → Nat → Int32 → Int32 → Int32 → Int32 → Int32 → ST → Option (ST)} {r_X4_takeOwn : Nat → Nat → Int32 → Int32 → Int32 → Int32 → Int32 → ST → Option (ST)} {r_X4_takeRecord : Nat → Nat → Int32 → Int32 → Int32 → Int32 → Int32 → ST → Option (ST)} {b : Nat} {t : Nat} {p0 : Int32} {p1 : Int32} {p2 : Int32} {p3 : Int32} {p4 : Int32} {σ : ST} (h_r_X4_take : ∀ (x1 : Nat) (x2 : Nat) (x3 : Int32) (x4 : Int32) (x5 : Int32) (x6 : Int32) (x7 : Int32) (σ : ST), B0 = x1 → T0 = x2 → KRA B0 T0 s σ → PF st0 (KRA B0 T0 s) (r_X4_take x1 x2 x3 x4 x5 x6 x7 σ)) (h_r_X4_takeField : ∀ (x1 : Nat) (x2 : Nat) (x3 : Int32) (x4 : Int32) (x5 : Int32) (x6 : Int32) (x7 : Int32) (σ : ST), B0 = x1 → T0 = x2 → KRA B0 T0 s σ → PF st0 (KRA B0 T0 s) (r_X4_takeField x1 x2 x3 x4 x5 x6 x7 σ)) (h_r_X4_takeList : ∀ (x1 : Nat) (x2 : Nat) (x3 : Int32) (x4 : Int32) (x5 : Int32) (x6 : Int32) (x7 : Int32) (σ : ST), B0 = x1 → T0 = x2 → KRA B0 T0 s σ → PF st0 (KRA B0 T0 s) (r_X4_takeList x1 x2 x3 x4 x5 x6 x7 σ)) (h_r_X4_takeOwn : ∀ (x1 : Nat) (x2 : Nat) (x3 : Int32) (x4 : Int32) (x5 : Int32) (x6 : Int32) (x7 : Int32) (σ : ST), B0 = x1 → T0 = x2 → KRA B0 T0 s σ → PF st0 (KRA B0 T0 s) (r_X4_takeOwn x1 x2 x3 x4 x5 x6 x7 σ)) (h_r_X4_takeRecord : ∀ (x1 : Nat) (x2 : Nat) (x3 : Int32) (x4 : Int32) (x5 : Int32) (x6 : Int32) (x7 : Int32) (σ : ST), B0 = x1 → T0 = x2 → KRA B0 T0 s σ → PF st0 (KRA B0 T0 s) (r_X4_takeRecord x1 x2 x3 x4 x5 x6 x7 σ)) (h_b : B0 = b) (h_t : T0 = t) (h : KRA B0 T0 s σ) : PF st0 (KRA B0 T0 s) (f_X4_takeRecord r_X4_take r_X4_takeField r_X4_takeList r_X4_takeOwn r_X4_takeRecord b t p0 p1 p2 p3 p4 σ) := by
  unfold f_X4_takeRecord
  exact (PF.ite (fun _ => (wr_X4_takeRecord_17 h_r_X4_take h_r_X4_takeField h_r_X4_takeList h_r_X4_takeOwn h_r_X4_takeRecord (by omega) (by omega) h)) (fun _ => (PF.bnd (wr_X5_innerOf  h) (fun q1 hq1 => (wr_X4_takeRecord_17 h_r_X4_take h_r_X4_takeField h_r_X4_takeList h_r_X4_takeOwn h_r_X4_takeRecord (by omega) (by omega) hq1)))))
theorem wrR_X4_take {B0 T0 : Nat} {s : ST} : ∀ n : Nat, (∀ (b : Nat) (t : Nat) (p0 : Int32) (p1 : Int32) (p2 : Int32) (p3 : Int32) (p4 : Int32) (σ : ST), B0 = b → T0 = t → KRA B0 T0 s σ → PF st0 (KRA B0 T0 s) ((R_X4_take n).1 b t p0 p1 p2 p3 p4 σ)) ∧ (∀ (b : Nat) (t : Nat) (p0 : Int32) (p1 : Int32) (p2 : Int32) (p3 : Int32) (p4 : Int32) (σ : ST), B0 = b → T0 = t → KRA B0 T0 s σ → PF st0 (KRA B0 T0 s) ((R_X4_take n).2.1 b t p0 p1 p2 p3 p4 σ)) ∧ (∀ (b : Nat) (t : Nat) (p0 : Int32) (p1 : Int32) (p2 : Int32) (p3 : Int32) (p4 : Int32) (σ : ST), B0 = b → T0 = t → KRA B0 T0 s σ → PF st0 (KRA B0 T0 s) ((R_X4_take n).2.2.1 b t p0 p1 p2 p3 p4 σ)) ∧ (∀ (b : Nat) (t : Nat) (p0 : Int32) (p1 : Int32) (p2 : Int32) (p3 : Int32) (p4 : Int32) (σ : ST), B0 = b → T0 = t → KRA B0 T0 s σ → PF st0 (KRA B0 T0 s) ((R_X4_take n).2.2.2.1 b t p0 p1 p2 p3 p4 σ)) ∧ (∀ (b : Nat) (t : Nat) (p0 : Int32) (p1 : Int32) (p2 : Int32) (p3 : Int32) (p4 : Int32) (σ : ST), B0 = b → T0 = t → KRA B0 T0 s σ → PF st0 (KRA B0 T0 s) ((R_X4_take n).2.2.2.2 b t p0 p1 p2 p3 p4 σ)) := by
  intro n
  induction n with
  | zero => exact ⟨fun _ _ _ _ _ _ _ _ _ _ _ => PF.none, fun _ _ _ _ _ _ _ _ _ _ _ => PF.none, fun _ _ _ _ _ _ _ _ _ _ _ => PF.none, fun _ _ _ _ _ _ _ _ _ _ _ => PF.none, fun _ _ _ _ _ _ _ _ _ _ _ => PF.none⟩
  | succ n ih => exact ⟨fun _ _ _ _ _ _ _ _ h_b h_t h => wr_X4_take (ih.1) (ih.2.1) (ih.2.2.1) (ih.2.2.2.1) (ih.2.2.2.2) h_b h_t h, fun _ _ _ _ _ _ _ _ h_b h_t h => wr_X4_takeField (ih.1) (ih.2.1) (ih.2.2.1) (ih.2.2.2.1) (ih.2.2.2.2) h_b h_t h, fun _ _ _ _ _ _ _ _ h_b h_t h => wr_X4_takeList (ih.1) (ih.2.1) (ih.2.2.1) (ih.2.2.2.1) (ih.2.2.2.2) h_b h_t h, fun _ _ _ _ _ _ _ _ h_b h_t h => wr_X4_takeOwn (ih.1) (ih.2.1) (ih.2.2.1) (ih.2.2.2.1) (ih.2.2.2.2) h_b h_t h, fun _ _ _ _ _ _ _ _ h_b h_t h => wr_X4_takeRecord (ih.1) (ih.2.1) (ih.2.2.1) (ih.2.2.2.1) (ih.2.2.2.2) h_b h_t h⟩
theorem wr_T_X4_take {B0 T0 : Nat} {s : ST} {b : Nat} {t : Nat} {p0 : Int32} {p1 : Int32} {p2 : Int32} {p3 : Int32} {p4 : Int32} {σ : ST} (h_b : B0 = b) (h_t : T0 = t) (h : KRA B0 T0 s σ) : PF st0 (KRA B0 T0 s) (f_T_X4_take b t p0 p1 p2 p3 p4 σ) := (wrR_X4_take FR).1 _ _ _ _ _ _ _ _ h_b h_t h
theorem wr_X7_clear {B0 T0 : Nat} {s : ST} {b : Nat} {σ : ST}  (h_b : T0 = b) (h : KRA B0 T0 s σ) : PF st0 (KRA B0 T0 s) (f_X7_clear b σ) := by
  unfold f_X7_clear
  exact (PF.ret0 (KRA.i (by omega) h))
theorem wr_X7_firstOf {B0 T0 : Nat} {s : ST} {b : Nat} {p0 : Int32} {σ : ST}   (h : KRA B0 T0 s σ) : PF st1 (KRA B0 T0 s) (f_X7_firstOf b p0 σ) := by
  unfold f_X7_firstOf
  exact (PF.bnd (wr_X7_isRow  h) (fun q1 hq1 => (PF.ite (fun _ => (PF.ret1 hq1)) (fun _ => (PF.ite (fun _ => (PF.ret1 hq1)) (fun _ => PF.none))))))
theorem wr_X7_nextOf {B0 T0 : Nat} {s : ST} {b : Nat} {p0 : Int32} {σ : ST}   (h : KRA B0 T0 s σ) : PF st1 (KRA B0 T0 s) (f_X7_nextOf b p0 σ) := by
  unfold f_X7_nextOf
  exact (PF.bnd (wr_X7_isRow  h) (fun q1 hq1 => (PF.ite (fun _ => (PF.ret1 hq1)) (fun _ => (PF.ite (fun _ => (PF.ret1 hq1)) (fun _ => PF.none))))))
theorem wr_X7_rowBehind_51 {B0 T0 : Nat} {s : ST} {b : Nat} {x2 : Int32} {σ : ST}   (h : KRA B0 T0 s σ) : PF st1 (KRA B0 T0 s) (f_X7_rowBehind_51 b x2 σ) := by
  unfold f_X7_rowBehind_51
  exact (PF.bnd (wr_X7_nextOf  h) (fun q1 hq1 => (PF.ret1 hq1)))
theorem wr_X7_parentOf {B0 T0 : Nat} {s : ST} {b : Nat} {p0 : Int32} {σ : ST}   (h : KRA B0 T0 s σ) : PF st1 (KRA B0 T0 s) (f_X7_parentOf b p0 σ) := by
  unfold f_X7_parentOf
  exact (PF.bnd (wr_X7_isRow  h) (fun q1 hq1 => (PF.ite (fun _ => (PF.ret1 hq1)) (fun _ => (PF.ite (fun _ => (PF.ret1 hq1)) (fun _ => PF.none))))))
theorem wr_X7_rowBehind_19 {B0 T0 : Nat} {s : ST} {b : Nat}   : ∀ (n : Nat) (x1 : Int32) (x2 : Int32) (σ : ST), KRA B0 T0 s σ → PF st1 (KRA B0 T0 s) (f_X7_rowBehind_19 b n x1 x2 σ) := by
  intro n
  induction n with
  | zero => intro x1 x2 σ h; rw [f_X7_rowBehind_19]; exact PF.none
  | succ n ih =>
    intro x1 x2 σ h
    rw [f_X7_rowBehind_19]
    exact (PF.ite (fun _ => (wr_X7_rowBehind_51  h)) (fun _ => (PF.ite (fun _ => (wr_X7_rowBehind_51  h)) (fun _ => (PF.bnd (wr_X7_nextOf  h) (fun q1 hq1 => (PF.ite (fun _ => (PF.bnd (wr_X7_parentOf  hq1) (fun q3 hq3 => (ih _ _ _ hq3)))) (fun _ => (wr_X7_rowBehind_51  hq1)))))))))
theorem wr_X7_rowBehind {B0 T0 : Nat} {s : ST} {b : Nat} {p0 : Int32} {σ : ST}   (h : KRA B0 T0 s σ) : PF st1 (KRA B0 T0 s) (f_X7_rowBehind b p0 σ) := by
  unfold f_X7_rowBehind
  exact (PF.bnd (wr_X7_firstOf  h) (fun q1 hq1 => (PF.ite (fun _ => (wr_X7_rowBehind_19  _ _ _ _ hq1)) (fun _ => (PF.bnd (wr_X7_firstOf  hq1) (fun q3 hq3 => (PF.ret1 hq3)))))))
theorem wr_X7_putInOrder_4 {B0 T0 : Nat} {s : ST} {b : Nat}  (h_b : T0 = b) : ∀ (n : Nat) (x1 : Int32) (x2 : Int32) (σ : ST), KRA B0 T0 s σ → PF st0 (KRA B0 T0 s) (f_X7_putInOrder_4 b n x1 x2 σ) := by
  intro n
  induction n with
  | zero => intro x1 x2 σ h; rw [f_X7_putInOrder_4]; exact PF.none
  | succ n ih =>
    intro x1 x2 σ h
    rw [f_X7_putInOrder_4]
    exact (PF.ite (fun _ => (PF.ret0 h)) (fun _ => (PF.bnd (wr_X7_isRow  h) (fun q1 hq1 => (PF.ite (fun _ => (PF.ret0 hq1)) (fun _ => (PF.ite (fun _ => (PF.ite (fun _ => (PF.bnd (wr_X7_rowBehind  (KRA.i (by omega) (KRA.i (by omega) hq1))) (fun q5 hq5 => (ih _ _ _ hq5)))) (fun _ => PF.none))) (fun _ => PF.none))))))))
theorem wr_X7_putInOrder {B0 T0 : Nat} {s : ST} {b : Nat} {σ : ST}  (h_b : T0 = b) (h : KRA B0 T0 s σ) : PF st0 (KRA B0 T0 s) (f_X7_putInOrder b σ) := by
  unfold f_X7_putInOrder
  exact (wr_X7_putInOrder_4 (by omega) _ _ _ _ h)
