/-! lists that are read, both sides -/
def STP (b : Nat) (σ s : ST) : Prop := (∀ c, c ≠ b → c ≠ b + 1 → s.1 c = σ.1 c) ∧ (∀ i, i ≠ 10 → s.1 b i = σ.1 b i) ∧ s.2 = σ.2
def STB (τ w : ST) : Prop := (∀ c, c ≠ 0 → c ≠ 36 → w.1 c = τ.1 c) ∧ (∀ i, i ≠ 57 → w.1 0 i = τ.1 0 i) ∧ w.2 = τ.2
theorem STP.rf {b : Nat} {σ : ST} : STP b σ σ := ⟨fun _ _ _ => rfl, fun _ _ => rfl, rfl⟩
theorem STB.rf {τ : ST} : STB τ τ := ⟨fun _ _ _ => rfl, fun _ _ => rfl, rfl⟩
theorem STB.i {τ : ST} {v : Int32} : STB τ (stI τ 0 57 v) := ⟨fun c h _ => stI_ne h, fun i hi => by rw [stI_at, upN hi], rfl⟩
theorem a_step26 (b t : Nat) (σ : ST) : QT (f_X4_step_26 b t σ) (fun s => STP b σ s) := by
  unfold f_X4_step_26
  exact QT.ret ⟨fun c h _ => stI_ne h, fun i hi => by rw [stI_at, upN hi], rfl⟩
theorem a_step (b t : Nat) (p0 : Int32) (σ : ST) : QT (f_X4_step b t p0 σ) (fun s => STP b σ s) := by
  unfold f_X4_step
  refine QT.ite (fun _ => a_step26 b t σ) (fun _ => QT.ite (fun _ => a_step26 b t σ) (fun _ => QT.grd (fun _ => ?_)))
  refine (a_step26 b t _).mono (fun s hs => ?_)
  refine ⟨fun c h1 h2 => (hs.1 c h1 h2).trans (stI_ne h2), fun i hi => (hs.2.1 i hi).trans (by rw [stI_ne (by omega)]), hs.2.2⟩
theorem a_stepBack (b t : Nat) (σ : ST) : QT (f_X4_stepBack b t σ) (fun s => STP b σ s) := by
  unfold f_X4_stepBack
  exact QT.ite (fun _ => QT.ret ⟨fun c h _ => stI_ne h, fun i hi => by rw [stI_at, upN hi], rfl⟩) (fun _ => QT.ret STP.rf)
theorem q_enters (p0 : Int32) (τ : ST) : QT (f_X11_enters p0 τ) (fun w => STB τ w) := by
  unfold f_X11_enters
  refine QT.grd (fun _ => QT.lt (fun z ez => QT.ret ?_))
  subst ez
  refine ⟨fun c h0 h36 => ?_, fun i hi => ?_, rfl⟩
  · rw [stI_ne h0, stI_ne h36]
  · rw [stI_at, upN hi, stI_ne (by omega)]
theorem STP.kra {b t : Nat} {σ s : ST} (hb : BT b t) (h : STP b σ s) : KRA b t σ s := by
  have hb' := hb
  unfold BT at hb'
  exact ⟨hb, fun c a _ => h.1 c (by omega) (by omega), ⟨fun i _ _ _ i10 => h.2.1 i i10, fun i _ => by rw [h.1 t (by omega) (by omega)]⟩, fun c _ => by rw [h.2.2], by rw [h.2.2], fun hn => by rw [h.2.1 7 (by omega)]; exact hn⟩
theorem STB.krb {τ w : ST} (h : STB τ w) : KRB τ w := ⟨fun c h0 _ _ h36 _ => h.1 c h0 h36, fun i _ h57 _ _ _ _ _ => h.2.1 i h57, fun c _ _ _ => by rw [h.2.2]⟩
/-- a step of the path on both sides -/
theorem RCX.st {b t m : Nat} {S T σ τ s w : ST} {x : Nat} (h : RCX b t m S T σ τ x) (hA : STP b σ s) (hB : STB τ w) : RCX b t m S T s w x := by
  obtain ⟨⟨h1, h2⟩, hR, h3, h4, h5⟩ := h
  have hb := h1.1
  have hb' := hb
  unfold BT at hb'
  refine ⟨⟨h1.trans (hA.kra hb), h2.trans hB.krb⟩, ?_, ?_, ?_, h5⟩
  · unfold RPS at hR ⊢
    rw [hA.2.1 7 (by omega), hA.2.1 4 (by omega), hA.2.1 5 (by omega), hA.2.1 6 (by omega), hA.1 38 (by omega) (by omega), hB.2.1 63 (by omega), hB.2.1 64 (by omega), hB.2.1 65 (by omega), hB.1 34 (by omega) (by omega)]
    exact hR
  · rw [hA.1 t (by omega) (by omega)]
    exact h3
  · rw [hB.2.1 46 (by omega)]
    exact h4
theorem ST.tre {b t : Nat} {σ s τ w : ST} (hb : BT b t) (h : STP b σ s) (k : STB τ w) : TRE t σ s τ w := by
  have hb' := hb
  unfold BT at hb'
  exact ⟨fun c _ _ => h.1 c (by omega) (by omega), by rw [h.2.2], fun c _ _ => k.1 c (by omega) (by omega), by rw [k.2.2], by rw [k.2.2]⟩
theorem STP.srk {b L : Nat} {σ s : ST} (h : STP b σ s) : SRK b L σ s := fun i _ => by rw [h.1 (b + 2) (by omega) (by omega)]
theorem RSK.trans {b t m L : Nat} {S T : ST} {x : Nat} {σ τ s w u z : ST} (h : RSK b t m L S T x σ τ s w) (k : RSK b t m L S T x s w u z) : RSK b t m L S T x σ τ u z := ⟨k.1, h.2.1.trans k.2.1, h.2.2.trans k.2.2⟩
theorem RSK.wk {b t m L M : Nat} {S T : ST} {x : Nat} {σ τ s w : ST} (h : RSK b t m M S T x σ τ s w) (hL : L ≤ M) : RSK b t m L S T x σ τ s w := ⟨h.1, h.2.1, h.2.2.wk hL⟩
theorem RSK.st {b t m L : Nat} {S T : ST} {x : Nat} {σ τ s w : ST} (h : RCX b t m S T σ τ x) (hA : STP b σ s) (hB : STB τ w) : RSK b t m L S T x σ τ s w := ⟨h.st hA hB, ST.tre h.1.1.1 hA hB, hA.srk⟩
abbrev FTK : Type := Nat → Nat → Int32 → Int32 → Int32 → Int32 → Int32 → ST → Option ST
abbrev FRD : Type := Int32 → Int32 → Int32 → Int32 → Int32 → ST → Option (Int32 × ST)
/-- both read a value, one that the reader wants or not -/
def cTK (b t m p q : Nat) (S T : ST) (ra : FTK) (rb : FRD) : Prop := ∀ (x u lev : Int32) (L d xr : Nat) (σ τ : ST), TY p (T.1 8 p).toInt S T d x u → d ≤ 4 → lev.toInt = L → L ≤ 31 → RCX b t m S T σ τ xr →
  (∀ (pa pl pb pl' : Int32), QT (ra b t x (-1) pa pl lev σ) (fun s => QT (rb u (-1) lev pb pl' τ) (ROUT b (RSK b t m L S T xr σ τ) s))) ∧
  (∀ (y v pa pl : Int32) (e : Nat) (l k : List EN), ¬ y = -1 → TY q (T.1 8 q).toInt S T e y v → e ≤ 4 → MS T u v → PARG t σ τ xr xr pa pa pl l k → QT (ra b t x y pa pl lev σ) (fun s => QT (rb u v lev pa pl τ) (ROUT b (RVP b t m q L S T y v xr pa pl l k σ τ) s)))
/-- behind a failure nothing more is read -/
theorem ad_48 {rT rF rL rO rR : FTK} {b t : Nat} (x1 x5 x6 x7 x8 : Int32) {σ : ST} (h : ¬ σ.1 b 7 = 0) (n : Nat) (x9 : Int32) : QT (f_X4_takeList_48 rT rF rL rO rR b t n x1 x5 x6 x7 x8 x9 σ) (fun s => ¬ s.1 b 7 = 0) := by
  cases n with
  | zero =>
    rw [f_X4_takeList_48]
    exact QT.none
  | succ n =>
    rw [f_X4_takeList_48]
    exact QT.ite (fun _ => QT.ret h) (fun _ => QT.ite (fun e => absurd e h) (fun _ => QT.ret h))
/-- the items of a list that the reader doesn't want -/
theorem r_items {b t m p q : Nat} {S T : ST} {rT rF rL rO rR : FTK} {rb : FRD} {rI rS : Int32 → Int32 → Int32 → Int32 → ST → Option (Int32 × ST)} (hT : cTK b t m p q S T rT rb) {L : Nat} (hL : L ≤ 30) (x1 u lev cnt x7 xB : Int32) {d x : Nat} (hlev : lev.toInt = (L : Nat)) (hX : TY p (T.1 8 p).toInt S T d x1 (T.1 3 u.toNatClampNeg)) (hd : d ≤ 4) (hu : 0 ≤ u.toInt ∧ u.toInt < 800) (hc : 0 ≤ cnt.toInt ∧ cnt.toInt ≤ 200) : ∀ (n M i : Nat) (x9 : Int32) (σ τ : ST), RCX b t m S T σ τ x → x9.toInt = i → (i : Int) ≤ cnt.toInt → QT (f_X4_takeList_48 rT rF rL rO rR b t n x1 lev cnt x7 (-1) x9 σ) (fun s => QT (f_X11_readsItems_27 rb rI rS M u (-1) lev xB cnt x9 τ) (ROUT b (RSK b t m L S T x σ τ) s)) := by
  have l0 := li_0
  have l1 := li_1
  have lm := li_m1
  have el := il_addE (x := lev) (y := 1) (by omega) (by omega)
  intro n
  induction n with
  | zero =>
    intro M i x9 σ τ _ _ _
    rw [f_X4_takeList_48]
    exact QT.none
  | succ n ih =>
    intro M i x9 σ τ hC h9 hi
    cases M with
    | zero =>
      refine fun s _ => ?_
      rw [f_X11_readsItems_27]
      exact QT.none
    | succ M =>
      rw [f_X4_takeList_48, f_X11_readsItems_27]
      refine QT.ile (fun hle => QT.ret ?_) (fun hlt => ?_)
      · exact QT.ile (fun _ => QT.ret (.inr ⟨rfl, hC, TRE.rf, SRK.rf⟩)) (fun h => by omega)
      refine QT.ite (fun _ => ?_) (fun h => absurd hC.2.1.1.1 h)
      refine QT.sw ?_
      refine QT.ile (fun h => by omega) (fun _ => ?_)
      refine QT.bnd (q_enters _ τ) (fun τ1 hτ1 => ?_)
      refine QT.grd (fun _ => ?_)
      refine QT.ile (fun h => by omega) (fun _ => ?_)
      unfold f_X11_readsItems_64
      have e3 : τ1.1 3 = T.1 3 := (hτ1.1 3 (by omega) (by omega)).trans hC.1.2.ty.2.1
      rw [e3]
      refine QT.sw ?_
      refine QT.bnd (a_step b t _ σ) (fun σ1 hσ1 => ?_)
      have hC1 := hC.st hσ1 hτ1
      refine QT.bnd2 ((hT x1 (T.1 3 u.toNatClampNeg) (lev + 1) (L + 1) d x σ1 τ1 hX hd (by omega) (by omega) hC1).1 x7 x9 xB x9) (fun s w hsw => ?_)
      rcases hsw with ⟨f1, f2⟩ | ⟨w1, hK⟩
      · refine QT.bnd (a_stepBack b t s) (fun s2 hs2 => ?_)
        refine (ad_48 x1 lev cnt x7 (-1) (by rw [hs2.2.1 7 (by omega)]; exact f1) n _).mono (fun z hz => ?_)
        exact QT.ite (fun _ => QT.ret (.inl ⟨hz, rfl⟩)) (fun h => absurd f2 h)
      · refine QT.bnd (a_stepBack b t s) (fun s2 hs2 => ?_)
        refine QT.sw ?_
        refine QT.ite (fun h => by rw [w1] at h; exact absurd h one_ne) (fun _ => ?_)
        refine QT.sw ?_
        have hK1 : RSK b t m L S T x σ τ s w.2 := (RSK.st hC hσ1 hτ1).trans (hK.wk (by omega))
        have hB2 : STB w.2 (stI w.2 0 57 (w.2.1 0 57 - 1)) := STB.i
        have e9 := il_addE (x := x9) (y := 1) (by omega) (by omega)
        refine (ih M (i + 1) (x9 + 1) s2 _ (hK1.1.st hs2 hB2) (by omega) (by omega)).mono2 (fun z v hz => hz.imp (fun h => (hK1.trans (RSK.st hK1.1 hs2 hB2)).trans h))
theorem r_list {b t m p q : Nat} {S T : ST} {rT rF rL rO rR : FTK} {rb : FRD} {rI rS : Int32 → Int32 → Int32 → Int32 → ST → Option (Int32 × ST)} (hT : cTK b t m p q S T rT rb) {L : Nat} (hL : L ≤ 30) (x1 u lev pa pl xB : Int32) {d x : Nat} (hlev : lev.toInt = L) (hX : TY p (T.1 8 p).toInt S T d x1 (T.1 3 u.toNatClampNeg)) (hd : d ≤ 4) (hu : 0 ≤ u.toInt ∧ u.toInt < 800) (σ τ : ST) (hC : RCX b t m S T σ τ x) : QT (f_X4_takeList rT rF rL rO rR b t x1 (-1) pa pl lev σ) (fun s => QT (f_X11_readsItems rb rI rS u (-1) lev xB τ) (ROUT b (RSK b t m L S T x σ τ) s)) := by
  have hb := hC.1.1.1
  have z200 : (200 : Int32).toInt64 = 200 := by decide
  have z200' : (200 : Int64).toInt = 200 := by decide
  unfold f_X4_takeList f_X11_readsItems
  rw [← hC.2.1.2.1.1]
  refine QT.bnd2 (rd_count hb (σ.1 b 5) 200 200 z200 σ τ hC.2.1) (fun q1 w hqw => ?_)
  have ha : ∀ s : ST, f_X4_addNode b t (-1) pa pl q1.1 0 s = some (-1, s) := fun s => by
    unfold f_X4_addNode
    exact if_pos rfl
  rw [ha, sbnd]
  refine QT.ite (fun _ => ?_) (fun h => absurd rfl h)
  unfold f_X4_takeList_43
  rcases hqw with ⟨f1, f2⟩ | ⟨e0, hR, ⟨hA, hB⟩, e1, e2, e3⟩
  · refine (ad_48 x1 lev q1.1 (-1) (-1) f1 FU 0).mono (fun z hz => ?_)
    exact QT.ite (fun _ => QT.ret (.inl ⟨hz, rfl⟩)) (fun h => absurd f2 h)
  · have ei : q1.1.toInt = (w.2.2.1 0 70).toInt := by
      rw [e1]
      show (w.2.2.1 0 70).toInt32.toInt = _
      rw [Int64.toInt_toInt32]
      exact Int.bmod_eq_of_le (by omega) (by omega)
    refine QT.sw ?_
    refine QT.ite (fun h => by rw [e0] at h; exact absurd h one_ne) (fun _ => ?_)
    refine QT.sw ?_
    rw [← e1]
    have hK : RSK b t m L S T x σ τ q1.2 w.2 := ⟨hC.mv hR hA hB, PM.tre hb hA hB, hA.srk⟩
    exact (r_items hT hL x1 u lev q1.1 (-1) xB hlev hX hd hu ⟨by omega, by omega⟩ FU FU 0 0 q1.2 w.2 hK.1 li_0 (by omega)).mono2 (fun z v hz => hz.imp (fun h => hK.trans h))
