/-! a row put into a tree that is read, both sides -/
/-- below which row a new one comes, of any tree -/
def PARG (b : Nat) (σ τ : ST) (x v : Nat) (pa pb pl : Int32) (l m : List EN) : Prop := ((pa.toInt = -1 ∧ pb.toInt = -1) ∧ l = [] ∧ m = [] ∧ pl.toInt = 0) ∨ ∃ (x0 v0 : Nat) (Q : EN → Prop), ((pa.toInt = x0 ∧ x0 < x) ∧ pb.toInt = v0 ∧ v0 < v) ∧ KDS b σ τ (x0, x) (v0, v) (l ++ m) Q ∧ (∀ y, y ∈ l ++ m → (inA y = true → (σ.1 (b + 3) y.2.1.1).toInt = y.1) ∧ (τ.1 25 y.2.2.1).toInt = y.1) ∧ (∀ y, y ∈ l → (y.1 : Int) < pl.toInt) ∧ (∀ y, y ∈ m → pl.toInt < y.1) ∧ (0 ≤ pl.toInt ∧ pl.toInt ≤ 200) ∧ (pl.toInt < 200 ∨ (τ.1 20 v0).toInt = 6)
theorem PARG.lt {b : Nat} {σ τ : ST} {x v : Nat} {pa pb pl : Int32} {l m : List EN} (h : PARG b σ τ x v pa pb pl l m) : pa.toInt < x ∧ pb.toInt < v ∧ (∀ r, r ∈ rA l ++ rA m → r < x) ∧ (∀ r, r ∈ rB l ++ rB m → r < v) ∧ 0 ≤ pl.toInt ∧ pl.toInt ≤ 200 := by
  rcases h with ⟨⟨h1, h2⟩, h3, h4, h5⟩ | ⟨x0, v0, Q, ⟨⟨h1, h2⟩, h3, h4⟩, h5, _, _, _, h9, _⟩
  · refine ⟨by omega, by omega, fun r hr => ?_, fun r hr => ?_, by omega, by omega⟩
    · rw [h3, h4] at hr
      exact absurd hr (by simp [rA])
    · rw [h3, h4] at hr
      exact absurd hr (by simp [rB])
  · refine ⟨by omega, by omega, fun r hr => ?_, fun r hr => ?_, h9.1, h9.2⟩
    · rw [← rA_app] at hr
      obtain ⟨y, y1, y2, y3⟩ := mem_rA hr
      have k := (h5.2.2.2 y y1).2.1
      have k1 := k.1 y2
      have k2 := inA_lt y2
      have k1 : x0 < y.2.1.1 ∧ y.2.1.2 ≤ x := k1
      omega
    · rw [← rB_app] at hr
      obtain ⟨y, y1, y3⟩ := mem_rB hr
      have k : v0 < y.2.2.1 ∧ y.2.2.1 < y.2.2.2 ∧ y.2.2.2 ≤ v := (h5.2.2.2 y y1).1
      omega
theorem PARG.gA {b : Nat} {σ τ : ST} {x v : Nat} {pa pb pl : Int32} {l m : List EN} (h : PARG b σ τ x v pa pb pl l m) : pa.toInt = -1 ∨ 0 ≤ pa.toInt ∧ pa.toInt < x ∧ ((rA l ++ rA m).Nodup ∧ CN (σ.1 (b + 9)) (σ.1 (b + 7) pa.toNatClampNeg) (rA l ++ rA m) ∧ (σ.1 (b + 8) pa.toNatClampNeg).toInt = lz (-1) (rA l ++ rA m)) ∧ (∀ r, r ∈ rA l ++ rA m → r < x) ∧ (rA l).length ≤ x ∧ (∀ r, r ∈ rA l → (σ.1 (b + 3) r).toInt < pl.toInt) ∧ (∀ r, r ∈ rA m → pl.toInt ≤ (σ.1 (b + 3) r).toInt) := by
  have hlt := h.lt
  rcases h with ⟨⟨h1, h2⟩, h3, h4, h5⟩ | ⟨x0, v0, Q, ⟨⟨h1, h2⟩, h3, h4⟩, h5, h6, h7, h8, _⟩
  · exact .inl h1
  · obtain ⟨⟨⟨k1, k2⟩, _⟩, ⟨k3, _⟩, ⟨_, k4⟩, _⟩ := h5
    have n0 : pa.toNatClampNeg = x0 := nC h1
    rw [n0]
    rw [← rA_app]
    have k4 : (rA (l ++ m)).length + x0 < x := k4.1
    have e4 : (rA (l ++ m)).length = (rA l).length + (rA m).length := by rw [rA_app, List.length_append]
    refine .inr ⟨by omega, by omega, ⟨rA_nd k3, k1, k2⟩, by rw [rA_app]; exact hlt.2.2.1, by omega, fun r hr => ?_, fun r hr => ?_⟩
    · obtain ⟨y, y1, y2, y3⟩ := mem_rA hr
      have := (h6 y (List.mem_append_left _ y1)).1 y2
      have := h7 y y1
      rw [y3]
      omega
    · obtain ⟨y, y1, y2, y3⟩ := mem_rA hr
      have := (h6 y (List.mem_append_right _ y1)).1 y2
      have := h8 y y1
      rw [y3]
      omega
theorem PARG.gB {b : Nat} {σ τ : ST} {x v : Nat} {pa pb pl : Int32} {l m : List EN} (h : PARG b σ τ x v pa pb pl l m) : pb.toInt = -1 ∨ 0 ≤ pb.toInt ∧ pb.toInt < v ∧ ((rB l ++ rB m).Nodup ∧ CN (τ.1 30) (τ.1 28 pb.toNatClampNeg) (rB l ++ rB m) ∧ (τ.1 29 pb.toNatClampNeg).toInt = lz (-1) (rB l ++ rB m)) ∧ (∀ r, r ∈ rB l ++ rB m → r < v) ∧ (∀ r, r ∈ rB l → (τ.1 25 r).toInt < pl.toInt) ∧ (∀ r, r ∈ rB m → pl.toInt ≤ (τ.1 25 r).toInt) := by
  have hlt := h.lt
  rcases h with ⟨⟨h1, h2⟩, h3, h4, h5⟩ | ⟨x0, v0, Q, ⟨⟨h1, h2⟩, h3, h4⟩, h5, h6, h7, h8, _⟩
  · exact .inl h2
  · obtain ⟨⟨_, k1, k2⟩, ⟨k3, _⟩, _, k5⟩ := h5
    have n0 : pb.toNatClampNeg = v0 := nC h3
    rw [n0]
    rw [← rB_app]
    refine .inr ⟨by omega, by omega, ⟨rB_nd k3 (fun y hy => (k5 y hy).1.2.1), k1, k2⟩, by rw [rB_app]; exact hlt.2.2.2.1, fun r hr => ?_, fun r hr => ?_⟩
    · obtain ⟨y, y1, y3⟩ := mem_rB hr
      have := (h6 y (List.mem_append_left _ y1)).2
      have := h7 y y1
      rw [y3]
      omega
    · obtain ⟨y, y1, y3⟩ := mem_rB hr
      have := (h6 y (List.mem_append_right _ y1)).2
      have := h8 y y1
      rw [y3]
      omega
theorem q_sbnd {α β : Type} {o : Option α} {f : α → Option β} {e : α} {P : β → Prop} (h : o = some e) (k : QT (f e) P) : QT (o.bind f) P := by
  rw [h]
  exact k
/-- the class's row, with what it is worth -/
theorem a_addNode {b t : Nat} (hb : BT b t) (y pa pl n : Int32) (w : Int64) (so : Int32) (σ : ST) {x : Nat} {l m : List Nat} (hy : ¬ y = -1) (h7 : σ.1 b 7 = 0) (hr : σ.2.2.2 b = t) (hx : (σ.1 t 1).toInt = x) (hc : 400 ≤ (σ.1 t 0).toInt) (hso : f_X5_sortOf 4 y σ = some (so, σ)) (hpa : pa.toInt = -1 ∨ 0 ≤ pa.toInt ∧ pa.toInt < x ∧ ((l ++ m).Nodup ∧ CN (σ.1 (t + 9)) (σ.1 (t + 7) pa.toNatClampNeg) (l ++ m) ∧ (σ.1 (t + 8) pa.toNatClampNeg).toInt = lz (-1) (l ++ m)) ∧ (∀ r, r ∈ l ++ m → r < x) ∧ l.length ≤ x ∧ (∀ r, r ∈ l → (σ.1 (t + 3) r).toInt < pl.toInt) ∧ (∀ r, r ∈ m → pl.toInt ≤ (σ.1 (t + 3) r).toInt)) : QT (f_X4_addNode b t y pa pl n w σ) (fun q => (¬ q.2.1 b 7 = 0 ∧ 400 ≤ x) ∨ (x < 400 ∧ q.1.toInt = x ∧ ∃ s, GRW t x so pa pl l m σ s ∧ q.2 = stL (stI s (t + 4) x n) (t + 6) x w)) := by
  have hb' := hb
  unfold BT at hb'
  have l400 := li_400
  have lm := li_m1
  have k63 : ∀ s : ST, ¬ s.1 b 7 = 0 → QT (f_X4_addNode_63 b t n w (-1) s) (fun q => ¬ q.2.1 b 7 = 0) := fun s hs => by
    unfold f_X4_addNode_63
    refine QT.grd (fun _ => QT.bnd (Q := fun z => z = s) ?_ (fun z hz => QT.ret (by rw [hz]; exact hs)))
    unfold f_X7_setWorth
    refine QT.bnd (pt_isRow t (-1) s) (fun q hq => ?_)
    obtain ⟨v, s'⟩ := q
    obtain ⟨e, hv⟩ := hq
    have e : s' = s := e
    subst e
    dsimp only
    refine QT.ieq (fun _ => QT.ret rfl) (fun h => ?_)
    exfalso
    have l0 := li_0
    have hv : v.toInt = 0 ∧ ¬ (0 ≤ (-1 : Int32).toInt ∧ (-1 : Int32).toInt < (s'.1 t 1).toInt ∧ (-1 : Int32).toInt < (s'.1 t 0).toInt) ∨ v.toInt = 1 ∧ 0 ≤ (-1 : Int32).toInt ∧ (-1 : Int32).toInt < (s'.1 t 1).toInt ∧ (-1 : Int32).toInt < (s'.1 t 0).toInt := hv
    omega
  unfold f_X4_addNode
  refine QT.ite (fun h => absurd h hy) (fun _ => ?_)
  refine QT.ite (fun _ => ?_) (fun h => absurd h7 h)
  refine QT.grd (fun _ => ?_)
  refine QT.ile (fun hle => ?_) (fun hlt => ?_)
  · unfold f_X4_addNode_48
    refine QT.ite (fun _ => ?_) (fun h => absurd rfl h)
    exact QT.bnd (a_failed hb 15 (-1) σ (by decide)) (fun s hs => (k63 s hs).mono (fun q hq => .inl ⟨hq, by omega⟩))
  · rw [hso, sbnd]
    dsimp only
    refine QT.bnd (a_grow t so pa pl σ hx hpa) (fun q hq => ?_)
    rcases hq with ⟨_, h2, _⟩ | ⟨⟨h1, h2⟩, g⟩
    · omega
    · unfold f_X4_addNode_48
      refine QT.ieq (fun h => by omega) (fun _ => ?_)
      unfold f_X4_addNode_63
      have g1 : (q.2.1 t 1).toInt = (x : Int) + 1 := g.2.1
      have g0 : q.2.1 t 0 = σ.1 t 0 := g.1.2.2.2 0 (by omega)
      refine QT.grd (fun _ => ?_)
      refine QT.bnd (a_setW t q.1 n w q.2 h1 (by omega) (by rw [g0]; omega)) (fun z hz => QT.ret (.inr ⟨by omega, h1, q.2, g, hz⟩))
