/-! the class's order of a tree -/
theorem q_parentRow {b : Nat} {x : Int32} {σ : ST} {r : Nat} (h : x.toInt = r) (h1 : (r : Int) < (σ.1 b 1).toInt) (h0 : (r : Int) < (σ.1 b 0).toInt) : QT (f_X7_parentOf b x σ) (fun q => q = (σ.1 (b + 2) r, σ)) := by
  have l0 := li_0
  have n := nC h
  unfold f_X7_parentOf
  rw [n]
  refine QT.bnd (q_isRow b x σ h h1 h0) (fun q hq => ?_)
  obtain ⟨w, s⟩ := q
  obtain ⟨e, hw⟩ := hq
  have e : s = σ := e
  subst e
  have hw : w.toInt = 1 := hw
  exact QT.ieq (fun h => by omega) (fun _ => QT.grd (fun _ => QT.ret rfl))
theorem q_next_m1 (b : Nat) (x : Int32) (σ : ST) (h : x.toInt = -1) : QT (f_X7_nextOf b x σ) (fun q => q.1.toInt = -1 ∧ q.2 = σ) := by
  have l0 := li_0
  unfold f_X7_nextOf f_X7_isRow
  rw [if_pos (by rw [Int32.lt_iff_toInt_lt]; omega), sbnd]
  dsimp only
  refine QT.ite (fun _ => QT.ret ⟨li_m1, rfl⟩) (fun h => absurd rfl h)
/-- what comes behind a row r: w -/
def RBA (b : Nat) (σ : ST) (r : Nat) (w : Int) : Prop := ∀ (s : ST) (x : Int32), KPO b σ s → x.toInt = r → QT (f_X7_rowBehind b x s) (fun q => q.1.toInt = w ∧ q.2 = s)
/-- what is found behind row x, on the way up: w -/
def UPR (b : Nat) (σ : ST) : Nat → Nat → Int → Prop
  | 0, x, w => ((x : Int) < (σ.1 b 1).toInt ∧ (x : Int) < (σ.1 b 0).toInt) ∧ (¬ (σ.1 (b + 9) x).toInt = -1 ∧ w = (σ.1 (b + 9) x).toInt ∨ (σ.1 (b + 9) x).toInt = -1 ∧ (σ.1 (b + 2) x).toInt = -1 ∧ w = -1)
  | d + 1, x, w => ((x : Int) < (σ.1 b 1).toInt ∧ (x : Int) < (σ.1 b 0).toInt) ∧ (¬ (σ.1 (b + 9) x).toInt = -1 ∧ w = (σ.1 (b + 9) x).toInt ∨ (σ.1 (b + 9) x).toInt = -1 ∧ ∃ p : Nat, (σ.1 (b + 2) x).toInt = p ∧ UPR b σ d p w)
theorem q_rb51 (b : Nat) (x : Int32) (s : ST) {P : Int32 × ST → Prop} (h : QT (f_X7_nextOf b x s) P) : QT (f_X7_rowBehind_51 b x s) P := by
  unfold f_X7_rowBehind_51
  exact QT.bnd h (fun q hq => QT.ret hq)
theorem q_up {b : Nat} {σ : ST} : ∀ (d x : Nat) (w : Int), UPR b σ d x w → ∀ (n k : Nat) (x2 x3 : Int32) (s : ST), KPO b σ s → x2.toInt = x → x3.toInt = k → k + d ≤ 31 → QT (f_X7_rowBehind_19 b n x2 x3 s) (fun q => q.1.toInt = w ∧ q.2 = s) := by
  have l1 := li_1
  have lm := li_m1
  have l31 : (31 : Int32).toInt = 31 := by decide
  intro d
  induction d with
  | zero =>
    intro x w hU n k x2 x3 s hs h2 h3 hk
    obtain ⟨⟨u1, u2⟩, hU⟩ := hU
    cases n with
    | zero =>
      rw [f_X7_rowBehind_19]
      exact QT.none
    | succ n =>
      have sb : s.1 b = σ.1 b := hs.1 b (by omega) (by omega)
      have s9 : s.1 (b + 9) = σ.1 (b + 9) := hs.1 (b + 9) (by omega) (by omega)
      have s2 : s.1 (b + 2) = σ.1 (b + 2) := hs.1 (b + 2) (by omega) (by omega)
      rw [f_X7_rowBehind_19]
      refine QT.ilt (fun h => by omega) (fun _ => ?_)
      refine QT.ieq (fun h => by omega) (fun _ => ?_)
      have hn := q_nextRow (b := b) (σ := s) h2 (by rw [sb]; exact u1) (by rw [sb]; exact u2)
      rw [s9] at hn
      refine QT.bnd hn (fun q hq => ?_)
      rw [hq]
      dsimp only
      rcases hU with ⟨u3, u4⟩ | ⟨u3, u4, u5⟩
      · refine QT.ieq (fun h => by omega) (fun _ => q_rb51 b x2 s (hn.mono (fun z hz => by rw [hz]; exact ⟨u4.symm, rfl⟩)))
      · refine QT.ieq (fun _ => ?_) (fun h => by omega)
        have hp := q_parentRow (b := b) (σ := s) h2 (by rw [sb]; exact u1) (by rw [sb]; exact u2)
        rw [s2] at hp
        refine QT.bnd hp (fun z hz => ?_)
        rw [hz]
        dsimp only
        have fin : QT (f_X7_rowBehind_51 b (σ.1 (b + 2) x) s) (fun q => q.1.toInt = w ∧ q.2 = s) := q_rb51 b _ s ((q_next_m1 b _ s u4).mono (fun z hz => ⟨hz.1.trans u5.symm, hz.2⟩))
        cases n with
        | zero =>
          rw [f_X7_rowBehind_19]
          exact QT.none
        | succ n =>
          rw [f_X7_rowBehind_19]
          exact QT.ilt (fun _ => fin) (fun _ => QT.ieq (fun _ => fin) (fun h => by omega))
  | succ d ih =>
    intro x w hU n k x2 x3 s hs h2 h3 hk
    obtain ⟨⟨u1, u2⟩, hU⟩ := hU
    cases n with
    | zero =>
      rw [f_X7_rowBehind_19]
      exact QT.none
    | succ n =>
      have sb : s.1 b = σ.1 b := hs.1 b (by omega) (by omega)
      have s9 : s.1 (b + 9) = σ.1 (b + 9) := hs.1 (b + 9) (by omega) (by omega)
      have s2 : s.1 (b + 2) = σ.1 (b + 2) := hs.1 (b + 2) (by omega) (by omega)
      rw [f_X7_rowBehind_19]
      refine QT.ilt (fun h => by omega) (fun _ => ?_)
      refine QT.ieq (fun h => by omega) (fun _ => ?_)
      have hn := q_nextRow (b := b) (σ := s) h2 (by rw [sb]; exact u1) (by rw [sb]; exact u2)
      rw [s9] at hn
      refine QT.bnd hn (fun q hq => ?_)
      rw [hq]
      dsimp only
      rcases hU with ⟨u3, u4⟩ | ⟨u3, p, u4, u5⟩
      · refine QT.ieq (fun h => by omega) (fun _ => q_rb51 b x2 s (hn.mono (fun z hz => by rw [hz]; exact ⟨u4.symm, rfl⟩)))
      · refine QT.ieq (fun _ => ?_) (fun h => by omega)
        have hp := q_parentRow (b := b) (σ := s) h2 (by rw [sb]; exact u1) (by rw [sb]; exact u2)
        rw [s2] at hp
        refine QT.bnd hp (fun z hz => ?_)
        rw [hz]
        dsimp only
        have e3 := il_addE (x := x3) (y := 1) (by omega) (by omega)
        exact ih p w u5 n (k + 1) _ (x3 + 1) s hs u4 (by omega) (by omega)
/-- a row of no children: what is behind it on the way up -/
theorem rba_leaf {b d x : Nat} {σ : ST} {w : Int} (hU : UPR b σ d x w) (hd : d ≤ 31) (hF : (σ.1 (b + 7) x).toInt = -1) : RBA b σ x w := by
  have lm := li_m1
  have hr : (x : Int) < (σ.1 b 1).toInt ∧ (x : Int) < (σ.1 b 0).toInt := by
    cases d with
    | zero => exact hU.1
    | succ d => exact hU.1
  intro s y hs hy
  have sb : s.1 b = σ.1 b := hs.1 b (by omega) (by omega)
  have s7 : s.1 (b + 7) = σ.1 (b + 7) := hs.1 (b + 7) (by omega) (by omega)
  unfold f_X7_rowBehind
  have hf := q_firstRow (b := b) (σ := s) hy (by rw [sb]; exact hr.1) (by rw [sb]; exact hr.2)
  rw [s7] at hf
  refine QT.bnd hf (fun q hq => ?_)
  rw [hq]
  dsimp only
  refine QT.ieq (fun _ => ?_) (fun h => by omega)
  exact q_up d x w hU FU 0 y 0 s hs hy li_0 (by omega)
/-- a row of children: the first of them -/
theorem rba_first {b x c : Nat} {σ : ST} (hr : (x : Int) < (σ.1 b 1).toInt ∧ (x : Int) < (σ.1 b 0).toInt) (hF : (σ.1 (b + 7) x).toInt = c) : RBA b σ x c := by
  have lm := li_m1
  intro s y hs hy
  have sb : s.1 b = σ.1 b := hs.1 b (by omega) (by omega)
  have s7 : s.1 (b + 7) = σ.1 (b + 7) := hs.1 (b + 7) (by omega) (by omega)
  unfold f_X7_rowBehind
  have hf := q_firstRow (b := b) (σ := s) hy (by rw [sb]; exact hr.1) (by rw [sb]; exact hr.2)
  rw [s7] at hf
  refine QT.bnd hf (fun q hq => ?_)
  rw [hq]
  dsimp only
  refine QT.ieq (fun h => by omega) (fun _ => ?_)
  refine QT.bnd hf (fun q hq => ?_)
  rw [hq]
  exact QT.ret ⟨hF, rfl⟩
theorem UPR.rng {b d x : Nat} {σ : ST} {w : Int} (hU : UPR b σ d x w) : (x : Int) < (σ.1 b 1).toInt ∧ (x : Int) < (σ.1 b 0).toInt := by
  cases d with
  | zero => exact hU.1
  | succ d => exact hU.1
/-- the rows of a subtree follow one another -/
theorem pre_rb {b : Nat} {σ τ : ST} {LL : Nat → Nat × Nat × Int} : ∀ (n N e : Nat) (pn : Int) (x v : Nat), PRZ b σ τ LL n N e pn x v → (∀ i, N ≤ i → i < e → ((LL i).1 : Int) < (σ.1 b 1).toInt ∧ ((LL i).1 : Int) < (σ.1 b 0).toInt) → ∀ (d : Nat) (w : Int), UPR b σ d x w → n + d ≤ 32 → (∀ i, N ≤ i → i + 1 < e → RBA b σ (LL i).1 ((LL (i + 1)).1 : Int)) ∧ RBA b σ (LL (e - 1)).1 w := by
  have lm := li_m1
  intro n
  induction n with
  | zero => intro N e pn x v h; exact h.elim
  | succ n ih =>
    intro N e pn x v h hr d w hU hd
    obtain ⟨h1, _, l, ⟨h3, _⟩, h4, h5⟩ := h
    have hx : (LL N).1 = x := by rw [h1]
    -- the children from one of them on
    have key : ∀ (y : Nat × Nat) (m : List (Nat × Nat)) (j : Nat) (ptr : Int32), N < j → (∀ z, z ∈ y :: m → KD2 b σ τ x v z) → CN (σ.1 (b + 9)) ptr ((y :: m).map (fun z => z.1)) → FLT (fun i j y => PRZ b σ τ LL n i j N y.1 y.2) (y :: m) j e → ((LL j).1 = y.1 ∧ j < e) ∧ (∀ i, j ≤ i → i + 1 < e → RBA b σ (LL i).1 ((LL (i + 1)).1 : Int)) ∧ RBA b σ (LL (e - 1)).1 w := by
      intro y m
      induction m generalizing y with
      | nil =>
        intro j ptr hj hK hc hf
        obtain ⟨j2, f1, f2, f3⟩ := hf
        have f2 : PRZ b σ τ LL n j j2 N y.1 y.2 := f2
        have f3 : j2 = e := f3
        subst f3
        have hy := hK y List.mem_cons_self
        have ej : (LL j).1 = y.1 := by
          cases n with
          | zero => exact f2.elim
          | succ n => rw [f2.1]
        have hry := hr j (by omega) f1
        rw [ej] at hry
        have hUy : UPR b σ (d + 1) y.1 w := ⟨hry, .inr ⟨hc.2, x, hy.1.1, hU⟩⟩
        obtain ⟨g1, g2⟩ := ih j j2 N y.1 y.2 f2 (fun i h6 h7 => hr i (by omega) h7) (d + 1) w hUy (by omega)
        exact ⟨⟨ej, f1⟩, g1, g2⟩
      | cons y2 m ihm =>
        intro j ptr hj hK hc hf
        obtain ⟨j2, f1, f2, f3⟩ := hf
        have f2 : PRZ b σ τ LL n j j2 N y.1 y.2 := f2
        have hy := hK y List.mem_cons_self
        have hle := FLT.le _ _ _ f3
        obtain ⟨⟨k1, k2⟩, k3, k4⟩ := ihm y2 j2 _ (by omega) (fun z hz => hK z (List.mem_cons_of_mem _ hz)) hc.2 f3
        have ej : (LL j).1 = y.1 := by
          cases n with
          | zero => exact f2.elim
          | succ n => rw [f2.1]
        have hry := hr j (by omega) (by omega)
        rw [ej] at hry
        have hn2 : (σ.1 (b + 9) y.1).toInt = (y2.1 : Int) := hc.2.1
        have hUy : UPR b σ (d + 1) y.1 (y2.1 : Int) := ⟨hry, .inl ⟨by omega, hn2.symm⟩⟩
        obtain ⟨g1, g2⟩ := ih j j2 N y.1 y.2 f2 (fun i h6 h7 => hr i (by omega) (by omega)) (d + 1) _ hUy (by omega)
        refine ⟨⟨ej, by omega⟩, fun i h6 h7 => ?_, k4⟩
        by_cases hi : i + 1 < j2
        · exact g1 i h6 hi
        · by_cases hi2 : i + 1 = j2
          · rw [hi2, k1, show i = j2 - 1 by omega]
            exact g2
          · exact k3 i (by omega) h7
    cases l with
    | nil =>
      have h5 : N + 1 = e := h5
      have h3 : (σ.1 (b + 7) x).toInt = -1 := h3
      refine ⟨fun i h6 h7 => by omega, ?_⟩
      rw [show e - 1 = N by omega, hx]
      exact rba_leaf hU (by omega) h3
    | cons y m =>
      obtain ⟨⟨k1, k2⟩, k3, k4⟩ := key y m (N + 1) _ (by omega) h4 h3 h5
      refine ⟨fun i h6 h7 => ?_, k4⟩
      by_cases hi : i = N
      · rw [hi, hx, k1]
        exact rba_first hU.rng h3.1
      · exact k3 i (by omega) h7
/-- the order that the class tells -/
theorem a_order {b e : Nat} {σ : ST} {LL : Nat → Nat × Nat × Int} {w : Int} (he : 0 < e ∧ e ≤ 1000) (hsz : (σ.1 b 1).toInt = e ∧ (e : Int) ≤ (σ.1 b 0).toInt) (h0 : (LL 0).1 = 0) (hin : ∀ i, i < e → (LL i).1 < e) (hrb : ∀ i, i + 1 < e → RBA b σ (LL i).1 ((LL (i + 1)).1 : Int)) (hrl : RBA b σ (LL (e - 1)).1 w) (hnd : ∀ i j, i < j → j < e → ¬ (LL i).1 = (LL j).1) : QT (f_X7_putInOrder b σ) (fun s => ∀ i, i < e → (s.1 (b + 10) i).toInt = (LL i).1 ∧ (s.1 (b + 11) (LL i).1).toInt = i) := by
  have l0 := li_0
  have l1 := li_1
  unfold f_X7_putInOrder
  have key : ∀ (n N : Nat) (x1 x2 : Int32) (s : ST), x2.toInt = N → N ≤ e → KPO b σ s → (N < e → x1.toInt = (LL N).1) → (∀ i, i < N → (s.1 (b + 10) i).toInt = (LL i).1 ∧ (s.1 (b + 11) (LL i).1).toInt = i) → QT (f_X7_putInOrder_4 b n x1 x2 s) (fun s => ∀ i, i < e → (s.1 (b + 10) i).toInt = (LL i).1 ∧ (s.1 (b + 11) (LL i).1).toInt = i) := by
    intro n
    induction n with
    | zero =>
      intro N x1 x2 s _ _ _ _ _
      rw [f_X7_putInOrder_4]
      exact QT.none
    | succ n ih =>
      intro N x1 x2 s h2 hN hs h1 ho
      have sb : s.1 b = σ.1 b := hs.1 b (by omega) (by omega)
      rw [f_X7_putInOrder_4, sb]
      refine QT.ile (fun hle => QT.ret (fun i hi => ho i (by omega))) (fun hlt => ?_)
      have hNe : N < e := by omega
      have h1 := h1 hNe
      have hr := hin N hNe
      refine QT.bnd (q_isRow b x1 s h1 (by rw [sb]; omega) (by rw [sb]; omega)) (fun q hq => ?_)
      obtain ⟨v, s1⟩ := q
      obtain ⟨e1, hv⟩ := hq
      have e1 : s1 = s := e1
      have hv : v.toInt = 1 := hv
      rw [e1]
      dsimp only
      refine QT.ieq (fun h => by omega) (fun _ => QT.grd (fun _ => QT.grd (fun _ => ?_)))
      have n2 : x2.toNatClampNeg = N := nC h2
      have n1 : x1.toNatClampNeg = (LL N).1 := nC h1
      rw [n1, n2]
      have k2 : KPO b σ (stI (stI s (b + 10) N x1) (b + 11) (LL N).1 x2) := (hs.i (.inl rfl)).i (.inr rfl)
      have c10 : (stI (stI s (b + 10) N x1) (b + 11) (LL N).1 x2).1 (b + 10) = upd (s.1 (b + 10)) N x1 := by rw [stI_ne (by omega), stI_at]
      have c11 : (stI (stI s (b + 10) N x1) (b + 11) (LL N).1 x2).1 (b + 11) = upd (s.1 (b + 11)) (LL N).1 x2 := by rw [stI_at, stI_ne (by omega)]
      generalize stI (stI s (b + 10) N x1) (b + 11) (LL N).1 x2 = y at k2 c10 c11
      have ea := il_addE (x := x2) (y := 1) (by omega) (by omega)
      have ho2 : ∀ i, i < N + 1 → (y.1 (b + 10) i).toInt = (LL i).1 ∧ (y.1 (b + 11) (LL i).1).toInt = i := fun i hi => by
        rw [c10, c11]
        by_cases e2 : i = N
        · rw [e2, upA rfl, upA rfl]
          exact ⟨h1, h2⟩
        · have := hnd i N (by omega) hNe
          rw [upN e2, upN this]
          exact ho i (by omega)
      by_cases hlast : N + 1 < e
      · refine QT.bnd (hrb N hlast y x1 k2 h1) (fun z hz => ?_)
        rw [hz.2]
        exact ih (N + 1) z.1 (x2 + 1) y (by omega) (by omega) k2 (fun _ => hz.1) ho2
      · have hl := hrl y x1 k2 (by rw [show e - 1 = N by omega]; exact h1)
        refine QT.bnd hl (fun z hz => ?_)
        rw [hz.2]
        exact ih (N + 1) z.1 (x2 + 1) y (by omega) (by omega) k2 (fun h => by omega) ho2
  exact key FU 0 0 0 σ l0 (by omega) KPO.rf (fun _ => by rw [h0]; exact l0) (fun i hi => by omega)
