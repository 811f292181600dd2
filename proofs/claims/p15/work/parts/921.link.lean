/-! both sides' way to put a row below another -/
theorem stI_at {σ : ST} {q i : Nat} {v : Int32} : (stI σ q i v).1 q = upd (σ.1 q) i v := by
  show (bif Nat.beq q q then upd (σ.1 q) i v else σ.1 q) = _
  rw [Nat.beq_refl]
  rfl
theorem upA {f : Nat → Int32} {i j : Nat} {v : Int32} (h : j = i) : upd f i v j = v := by
  unfold upd
  rw [if_pos h]
theorem upN {f : Nat → Int32} {i j : Nat} {v : Int32} (h : j ≠ i) : upd f i v j = f j := by
  unfold upd
  rw [if_neg h]
theorem pt_isRow (b : Nat) (p0 : Int32) (σ : ST) : QT (f_X7_isRow b p0 σ) (fun q => q.2 = σ ∧ (q.1.toInt = 0 ∧ ¬ (0 ≤ p0.toInt ∧ p0.toInt < (σ.1 b 1).toInt ∧ p0.toInt < (σ.1 b 0).toInt) ∨ q.1.toInt = 1 ∧ 0 ≤ p0.toInt ∧ p0.toInt < (σ.1 b 1).toInt ∧ p0.toInt < (σ.1 b 0).toInt)) := by
  have l0 := li_0
  have l1 := li_1
  unfold f_X7_isRow
  refine QT.ilt (fun h => QT.ret ⟨rfl, .inl ⟨l0, by omega⟩⟩) (fun h => ?_)
  refine QT.ile (fun h => QT.ret ⟨rfl, .inl ⟨l0, by omega⟩⟩) (fun h2 => ?_)
  refine QT.ile (fun h => QT.ret ⟨rfl, .inl ⟨l0, by omega⟩⟩) (fun h3 => QT.ret ⟨rfl, .inr ⟨l1, by omega⟩⟩)
/-- the class's rows, when x came below p -/
def LKS (b x p : Nat) (l m : List Nat) (σ s : ST) : Prop := (∀ c, c ≠ b + 7 → c ≠ b + 8 → c ≠ b + 9 → s.1 c = σ.1 c) ∧ s.2 = σ.2 ∧ LKG (σ.1 (b + 7)) (σ.1 (b + 8)) (σ.1 (b + 9)) (s.1 (b + 7)) (s.1 (b + 8)) (s.1 (b + 9)) x p l m
/-- what is there ahead of it -/
def LKP (b x p : Nat) (l m : List Nat) (σ : ST) : Prop := x ∉ l ++ m ∧ (l ++ m).Nodup ∧ CN (σ.1 (b + 9)) (σ.1 (b + 7) p) (l ++ m) ∧ (σ.1 (b + 8) p).toInt = lz (-1) (l ++ m)
theorem a_lk155 (b : Nat) (x1 x2 : Int32) (σ : ST) {x p : Nat} (h1 : x1.toInt = x) (h2 : x2.toInt = p) : QT (f_X7_link_155 b x1 x2 σ) (fun s => (∀ c, c ≠ b + 8 → s.1 c = σ.1 c) ∧ s.2 = σ.2 ∧ ((σ.1 (b + 9) x).toInt = -1 ∧ s.1 (b + 8) p = x1 ∨ ¬ (σ.1 (b + 9) x).toInt = -1 ∧ s.1 (b + 8) p = σ.1 (b + 8) p) ∧ ∀ j, j ≠ p → s.1 (b + 8) j = σ.1 (b + 8) j) := by
  have lm := li_m1
  have n1 : x1.toNatClampNeg = x := by have := nN_ (x := x1) (by omega); omega
  have n2 : x2.toNatClampNeg = p := by have := nN_ (x := x2) (by omega); omega
  unfold f_X7_link_155
  rw [n1, n2]
  refine QT.grd (fun _ => ?_)
  refine QT.ieq (fun e => ?_) (fun e => ?_)
  · refine QT.grd (fun _ => QT.ret ⟨fun c hc => stI_ne hc, rfl, .inl ⟨by omega, by rw [stI_at, upA rfl]⟩, fun j hj => by rw [stI_at, upN hj]⟩)
  · exact QT.ret ⟨fun c hc => rfl, rfl, .inr ⟨by omega, rfl⟩, fun j hj => rfl⟩
theorem a_lk103 (b : Nat) (x1 x2 x4 : Int32) (σ : ST) {x p : Nat} {l m : List Nat} (h1 : x1.toInt = x) (h2 : x2.toInt = p) (h4 : x4.toInt = lz (-1) l) (hP : LKP b x p l m σ) (hr : ∀ r, r ∈ l ++ m → (r : Int) < (σ.1 b 1).toInt ∧ (r : Int) < (σ.1 b 0).toInt) : QT (f_X7_link_103 b x1 x2 x4 σ) (LKS b x p l m σ) := by
  have lm := li_m1
  have l0 := li_0
  have n1 : x1.toNatClampNeg = x := by have := nN_ (x := x1) (by omega); omega
  have n2 : x2.toNatClampNeg = p := by have := nN_ (x := x2) (by omega); omega
  obtain ⟨hx, hd, hc, hl⟩ := hP
  unfold f_X7_link_103
  refine QT.bnd (pt_isRow b x4 σ) (fun q hq => ?_)
  obtain ⟨v, s⟩ := q
  obtain ⟨e, hv⟩ := hq
  have e : s = σ := e
  subst e
  have hv : v.toInt = 0 ∧ ¬ (0 ≤ x4.toInt ∧ x4.toInt < (s.1 b 1).toInt ∧ x4.toInt < (s.1 b 0).toInt) ∨ v.toInt = 1 ∧ 0 ≤ x4.toInt ∧ x4.toInt < (s.1 b 1).toInt ∧ x4.toInt < (s.1 b 0).toInt := hv
  dsimp only
  refine QT.ieq (fun e => ?_) (fun e => ?_)
  · have hle : l = [] := by
      rcases lz_in l (-1) with ⟨e, _⟩ | ⟨q, h8, h9⟩
      · exact e
      · have := hr q (List.mem_append_left _ h8)
        omega
    subst hle
    refine QT.grd (fun _ => QT.grd (fun _ => ?_))
    refine QT.lt (fun z ez => ?_)
    rw [n1, n2] at ez
    have z9 : z.1 (b + 9) = upd (s.1 (b + 9)) x (s.1 (b + 7) p) := by rw [ez, stI_ne (by omega), stI_at]
    have z7 : z.1 (b + 7) = upd (s.1 (b + 7)) p x1 := by rw [ez, stI_at, stI_ne (by omega)]
    have zc : ∀ c, c ≠ b + 7 → c ≠ b + 9 → z.1 c = s.1 c := fun c h7 h9 => by rw [ez, stI_ne h7, stI_ne h9]
    have zL : z.2 = s.2 := by rw [ez]; rfl
    refine (a_lk155 b x1 x2 z h1 h2).mono (fun w hw => ?_)
    obtain ⟨w1, w2, w3, w4⟩ := hw
    refine ⟨fun c c7 c8 c9 => (w1 c c8).trans (zc c c7 c9), w2.trans zL, ?_⟩
    have e7 : w.1 (b + 7) = upd (s.1 (b + 7)) p x1 := (w1 _ (by omega)).trans z7
    have e9 : w.1 (b + 9) = upd (s.1 (b + 9)) x (s.1 (b + 7) p) := (w1 _ (by omega)).trans z9
    have e8 : z.1 (b + 8) = s.1 (b + 8) := zc _ (by omega) (by omega)
    rw [z9, upA rfl, e8] at w3
    rw [e8] at w4
    rw [e7, e9]
    exact lkg_0 h1 hx hc hl ⟨upA rfl, fun j hj => upN hj⟩ ⟨upA rfl, fun j hj => upN hj⟩ ⟨w3, w4⟩
  · have h0 : 0 ≤ x4.toInt := by omega
    have n4 := nN_ h0
    generalize x4.toNatClampNeg = q at n4
    have hqx : q ≠ x := fun e9 => by
      rcases lz_in l (-1) with ⟨_, h9⟩ | ⟨q', h8, h9⟩
      · omega
      · exact hx (List.mem_append_left _ (by rw [show x = q' by omega]; exact h8))
    refine QT.grd (fun _ => QT.grd (fun _ => ?_))
    refine QT.lt (fun z ez => ?_)
    rw [n1] at ez
    have z9 : z.1 (b + 9) = upd (upd (s.1 (b + 9)) x (s.1 (b + 9) q)) q x1 := by rw [ez, stI_at, stI_at]
    have zc : ∀ c, c ≠ b + 9 → z.1 c = s.1 c := fun c h9 => by rw [ez, stI_ne h9, stI_ne h9]
    have zL : z.2 = s.2 := by rw [ez]; rfl
    refine (a_lk155 b x1 x2 z h1 h2).mono (fun w hw => ?_)
    obtain ⟨w1, w2, w3, w4⟩ := hw
    refine ⟨fun c c7 c8 c9 => (w1 c c8).trans (zc c c9), w2.trans zL, ?_⟩
    have e7 : w.1 (b + 7) = s.1 (b + 7) := (w1 _ (by omega)).trans (zc _ (by omega))
    have e9 : w.1 (b + 9) = upd (upd (s.1 (b + 9)) x (s.1 (b + 9) q)) q x1 := (w1 _ (by omega)).trans z9
    have e8 : z.1 (b + 8) = s.1 (b + 8) := zc _ (by omega)
    rw [z9, upN (fun e => hqx e.symm), upA rfl, e8] at w3
    rw [e8] at w4
    rw [e7, e9]
    exact lkg_1 (q := q) h1 hx hd hc (by omega) hl (fun j => rfl) ⟨⟨by rw [upN (fun e => hqx e.symm), upA rfl], upA rfl⟩, fun j h1 h2 => by rw [upN h2, upN h1]⟩ ⟨w3, w4⟩
theorem a_lk50 (b : Nat) (x1 x2 : Int32) (σ : ST) {x p : Nat} {m : List Nat} (h1 : x1.toInt = x) (h2 : x2.toInt = p) : ∀ (l : List Nat) (n : Nat) (l0 : List Nat) (x4 x5 x6 : Int32), LKP b x p (l0 ++ l) m σ → (∀ r, r ∈ l0 ++ l ++ m → (r : Int) < (σ.1 b 1).toInt ∧ (r : Int) < (σ.1 b 0).toInt) → x4.toInt = lz (-1) l0 → CN (σ.1 (b + 9)) x5 (l ++ m) → 0 ≤ x6.toInt → x6.toInt + l.length < (σ.1 b 1).toInt → (∀ r, r ∈ l → (σ.1 (b + 3) r).toInt < (σ.1 (b + 3) x).toInt) → (∀ r, r ∈ m → (σ.1 (b + 3) x).toInt ≤ (σ.1 (b + 3) r).toInt) → QT (f_X7_link_50 b n x1 x2 x4 x5 x6 σ) (LKS b x p (l0 ++ l) m σ) := by
  have l0' := li_0
  have l1' := li_1
  have n1 : x1.toNatClampNeg = x := by have := nN_ (x := x1) (by omega); omega
  intro l
  induction l with
  | nil =>
    intro n l0 x4 x5 x6 hP hr h4 hc _ h7 hl hm
    cases n with
    | zero => exact QT.none
    | succ n =>
      rw [f_X7_link_50]
      rw [List.append_nil] at hP hr ⊢
      have go := a_lk103 b x1 x2 x4 σ h1 h2 h4 hP hr
      refine QT.ile (fun _ => go) (fun _ => ?_)
      refine QT.bnd (pt_isRow b x5 σ) (fun q hq => ?_)
      obtain ⟨v, s⟩ := q
      obtain ⟨e, hv⟩ := hq
      have e : s = σ := e
      subst e
      have hv : v.toInt = 0 ∧ ¬ (0 ≤ x5.toInt ∧ x5.toInt < (s.1 b 1).toInt ∧ x5.toInt < (s.1 b 0).toInt) ∨ v.toInt = 1 ∧ 0 ≤ x5.toInt ∧ x5.toInt < (s.1 b 1).toInt ∧ x5.toInt < (s.1 b 0).toInt := hv
      dsimp only
      refine QT.ieq (fun _ => go) (fun hn => ?_)
      refine QT.grd (fun _ => QT.grd (fun _ => ?_))
      refine QT.ile (fun _ => go) (fun hlt => ?_)
      have h0 : 0 ≤ x5.toInt := by omega
      have n5 := nN_ h0
      rw [n1] at hlt
      cases m with
      | nil =>
        have hc : x5.toInt = -1 := hc
        omega
      | cons r m =>
        have hc1 := hc.1
        have := hm r List.mem_cons_self
        rw [show x5.toNatClampNeg = r by omega] at hlt
        omega
  | cons a l ih =>
    intro n l0 x4 x5 x6 hP hr h4 hc h6 h7 hl hm
    cases n with
    | zero => exact QT.none
    | succ n =>
      rw [f_X7_link_50]
      have h7' : (((a :: l).length : Nat) : Int) = (l.length : Int) + 1 := by simp
      refine QT.ile (fun h => by omega) (fun _ => ?_)
      have hc1 := hc.1
      have ha := hr a (List.mem_append_left _ (List.mem_append_right _ List.mem_cons_self))
      refine QT.bnd (pt_isRow b x5 σ) (fun q hq => ?_)
      obtain ⟨v, s⟩ := q
      obtain ⟨e, hv⟩ := hq
      have e : s = σ := e
      subst e
      have hv : v.toInt = 0 ∧ ¬ (0 ≤ x5.toInt ∧ x5.toInt < (s.1 b 1).toInt ∧ x5.toInt < (s.1 b 0).toInt) ∨ v.toInt = 1 ∧ 0 ≤ x5.toInt ∧ x5.toInt < (s.1 b 1).toInt ∧ x5.toInt < (s.1 b 0).toInt := hv
      dsimp only
      refine QT.ieq (fun _ => by omega) (fun _ => ?_)
      have n5 : x5.toNatClampNeg = a := by have := nN_ (x := x5) (by omega); omega
      have hla := hl a List.mem_cons_self
      rw [n1, n5]
      refine QT.grd (fun _ => QT.grd (fun _ => ?_))
      refine QT.ile (fun h => by omega) (fun _ => ?_)
      have r6 := il_rng (s.1 b 1)
      have e6 : (x6 + 1).toInt = x6.toInt + 1 := by rw [il_addE (by omega) (by omega), l1']
      have eapp : l0 ++ a :: l = (l0 ++ [a]) ++ l := by simp
      rw [eapp] at hP hr ⊢
      refine ih n (l0 ++ [a]) x5 _ _ hP hr ?_ hc.2 (by omega) (by omega) (fun r h => hl r (List.mem_cons_of_mem _ h)) hm
      rw [lz_app]
      show x5.toInt = (a : Int)
      exact hc1
/-- x comes below p, behind those of lesser places -/
theorem a_link (b : Nat) (x1 x2 : Int32) (σ : ST) {x p : Nat} {l m : List Nat} (h1 : x1.toInt = x) (h2 : x2.toInt = p) (hP : LKP b x p l m σ) (hr : ∀ r, r ∈ l ++ m → (r : Int) < (σ.1 b 1).toInt ∧ (r : Int) < (σ.1 b 0).toInt) (hn : (l.length : Int) < (σ.1 b 1).toInt) (hl : ∀ r, r ∈ l → (σ.1 (b + 3) r).toInt < (σ.1 (b + 3) x).toInt) (hm : ∀ r, r ∈ m → (σ.1 (b + 3) x).toInt ≤ (σ.1 (b + 3) r).toInt) : QT (f_X7_link b x1 x2 σ) (LKS b x p l m σ) := by
  have l0' := li_0
  have lm := li_m1
  have n1 : x1.toNatClampNeg = x := by have := nN_ (x := x1) (by omega); omega
  have n2 : x2.toNatClampNeg = p := by have := nN_ (x := x2) (by omega); omega
  have go : QT (f_X7_link_39 b x1 x2 (-1) σ) (LKS b x p l m σ) := by
    unfold f_X7_link_39
    refine QT.grd (fun _ => ?_)
    rw [n2]
    exact a_lk50 b x1 x2 σ h1 h2 l FU [] (-1) _ 0 hP hr (by show (-1 : Int32).toInt = -1; exact lm) hP.2.2.1 (by omega) (by omega) hl hm
  unfold f_X7_link
  refine QT.grd (fun _ => ?_)
  rw [n2]
  refine QT.bnd (pt_isRow b _ σ) (fun q hq => ?_)
  obtain ⟨v, s⟩ := q
  obtain ⟨e, hv⟩ := hq
  have e : s = σ := e
  subst e
  have hv : v.toInt = 0 ∧ ¬ (0 ≤ (s.1 (b + 8) p).toInt ∧ (s.1 (b + 8) p).toInt < (s.1 b 1).toInt ∧ (s.1 (b + 8) p).toInt < (s.1 b 0).toInt) ∨ v.toInt = 1 ∧ 0 ≤ (s.1 (b + 8) p).toInt ∧ (s.1 (b + 8) p).toInt < (s.1 b 1).toInt ∧ (s.1 (b + 8) p).toInt < (s.1 b 0).toInt := hv
  dsimp only
  refine QT.ieq (fun _ => go) (fun hnz => ?_)
  refine QT.grd (fun _ => QT.grd (fun _ => ?_))
  refine QT.ile (fun _ => go) (fun hlt => ?_)
  rw [n1] at hlt
  have h0 : 0 ≤ (s.1 (b + 8) p).toInt := by omega
  have nq := nN_ h0
  generalize (s.1 (b + 8) p).toNatClampNeg = q at nq hlt
  have hL := hP.2.2.2
  have hme : m = [] := by
    cases m with
    | nil => rfl
    | cons r m =>
      exfalso
      rw [lz_app] at hL
      have hL : (s.1 (b + 8) p).toInt = lz (r : Int) m := hL
      rcases lz_in m (r : Int) with ⟨_, h9⟩ | ⟨q', h8, h9⟩
      · have := hm r List.mem_cons_self
        rw [show q = r by omega] at hlt
        omega
      · have := hm q' (List.mem_cons_of_mem _ h8)
        rw [show q = q' by omega] at hlt
        omega
  subst hme
  rw [List.append_nil] at hL
  exact a_lk103 b x1 x2 _ s h1 h2 hL hP hr
