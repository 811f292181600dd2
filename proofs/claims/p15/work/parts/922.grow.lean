/-! a new row -/
theorem stLA {σ : ST} {q i : Nat} {v : Int64} : (stL σ q i v).2.1 q = vp_updL (σ.2.1 q) i v := by
  show (bif Nat.beq q q then vp_updL (σ.2.1 q) i v else σ.2.1 q) = _
  rw [Nat.beq_refl]
  rfl
theorem upLA {f : Nat → Int64} {i j : Nat} {v : Int64} (h : j = i) : vp_updL f i v j = v := by
  unfold vp_updL
  rw [if_pos h]
theorem upLN {f : Nat → Int64} {i j : Nat} {v : Int64} (h : j ≠ i) : vp_updL f i v j = f j := by
  unfold vp_updL
  rw [if_neg h]
theorem nbF : vp_nar .boolean (0 : Int32) = 0 := by decide
theorem nbT : vp_nar .boolean (1 : Int32) = 1 := by decide
/-- the three columns of links, when x came (p: its parent, or none) -/
def GRL (F L N F' L' N' : Nat → Int32) (x : Nat) (p : Int) (l m : List Nat) : Prop := ((F' x).toInt = -1 ∧ (L' x).toInt = -1) ∧ (∀ j : Nat, (j : Int) ≠ p → j ≠ x → F' j = F j ∧ L' j = L j) ∧ (∀ j : Nat, j ≠ x → (j : Int) ≠ lz (-1) l → N' j = N j) ∧ ∀ q : Nat, (q : Int) = p → CN N' (F' q) (l ++ x :: m) ∧ (L' q).toInt = lz (-1) (l ++ x :: m)
theorem GRL.of {F L N F1 L1 N1 F' L' N' : Nat → Int32} {x p : Nat} {l m : List Nat} (h : LKG F1 L1 N1 F' L' N' x p l m) (hp : p ≠ x) (hF : F1 = upd F x (-1)) (hL : L1 = upd L x (-1)) (hN : ∀ j, j ≠ x → N1 j = N j) : GRL F L N F' L' N' x p l m := by
  have lm := li_m1
  obtain ⟨h1, h2, h3, h4⟩ := h
  refine ⟨?_, fun j hj hx => ?_, fun j hx hj => (h2 j hx hj).trans (hN j hx), fun q hq => ?_⟩
  · have := h1 x (fun e => hp e.symm)
    rw [this.1, this.2, hF, hL, upA rfl, upA rfl]
    exact ⟨lm, lm⟩
  · have := h1 j (fun e => hj (by rw [e]))
    rw [this.1, this.2, hF, hL, upN hx, upN hx]
    exact ⟨rfl, rfl⟩
  · rw [show q = p by omega]
    exact ⟨h3, h4⟩
/-- the class's tree, when row x came -/
def GRW (b x : Nat) (so pa pl : Int32) (l m : List Nat) (σ s : ST) : Prop := ((∀ c, c < b ∨ b + 9 < c → s.1 c = σ.1 c) ∧ (∀ c, c ≠ b + 6 → s.2.1 c = σ.2.1 c) ∧ s.2.2 = σ.2.2 ∧ (∀ j, j ≠ 1 → s.1 b j = σ.1 b j)) ∧ (s.1 b 1).toInt = (x : Int) + 1 ∧ (s.1 (b + 1) x = so ∧ s.1 (b + 2) x = pa ∧ s.1 (b + 3) x = pl ∧ s.1 (b + 4) x = 0 ∧ s.1 (b + 5) x = 0 ∧ s.2.1 (b + 6) x = 0) ∧ (∀ j, j ≠ x → (∀ k, 1 ≤ k → k ≤ 5 → s.1 (b + k) j = σ.1 (b + k) j) ∧ s.2.1 (b + 6) j = σ.2.1 (b + 6) j) ∧ GRL (σ.1 (b + 7)) (σ.1 (b + 8)) (σ.1 (b + 9)) (s.1 (b + 7)) (s.1 (b + 8)) (s.1 (b + 9)) x pa.toInt l m
theorem a_grow (b : Nat) (so pa pl : Int32) (σ : ST) {x : Nat} {l m : List Nat} (hx : (σ.1 b 1).toInt = x) (hpa : pa.toInt = -1 ∨ 0 ≤ pa.toInt ∧ pa.toInt < x ∧ ((l ++ m).Nodup ∧ CN (σ.1 (b + 9)) (σ.1 (b + 7) pa.toNatClampNeg) (l ++ m) ∧ (σ.1 (b + 8) pa.toNatClampNeg).toInt = lz (-1) (l ++ m)) ∧ (∀ r, r ∈ l ++ m → r < x) ∧ l.length ≤ x ∧ (∀ r, r ∈ l → (σ.1 (b + 3) r).toInt < pl.toInt) ∧ (∀ r, r ∈ m → pl.toInt ≤ (σ.1 (b + 3) r).toInt)) : QT (f_X7_grow b so pa pl σ) (fun q => (q.1 = -1 ∧ (σ.1 b 0).toInt ≤ x ∧ q.2 = σ) ∨ ((q.1.toInt = x ∧ (x : Int) < (σ.1 b 0).toInt) ∧ GRW b x so pa pl l m σ q.2)) := by
  have lm := li_m1
  have l0 := li_0
  have l1 := li_1
  unfold f_X7_grow
  refine QT.ilt (fun hlt => ?_) (fun h => QT.ret (.inl ⟨rfl, by omega, rfl⟩))
  refine QT.grd (fun _ => ?_)
  have nx := nN_ (x := σ.1 b 1) (by omega)
  have rx := il_rng (σ.1 b 0)
  have ex : (σ.1 b 1 + 1).toInt = x + 1 := by rw [il_addE (by omega) (by omega)]; omega
  generalize hv : σ.1 b 1 = v at hx hlt nx ex
  rw [show v.toNatClampNeg = x by omega]
  refine QT.lt (fun z2 e2 => QT.lt (fun z3 e3 => QT.lt (fun z4 e4 => QT.lt (fun z5 e5 => ?_))))
  have A (k : Nat) (hk : 1 ≤ k) (hk5 : k ≤ 5) : z5.1 (b + k) = z3.1 (b + k) := by
    rw [e5, stI_ne (by omega), stI_ne (by omega), e4, stI_ne (by omega)]
    rfl
  have c1 : z5.1 (b + 1) = upd (σ.1 (b + 1)) x so := by
    rw [A 1 (by omega) (by omega), e3, stI_ne (by omega), stI_ne (by omega), stI_ne (by omega), e2, stI_ne (by omega), stI_at, stI_ne (by omega)]
  have c2 : z5.1 (b + 2) = upd (σ.1 (b + 2)) x pa := by
    rw [A 2 (by omega) (by omega), e3, stI_ne (by omega), stI_ne (by omega), stI_ne (by omega), e2, stI_at, stI_ne (by omega), stI_ne (by omega)]
  have z2c (c : Nat) (h : b + 2 < c) : z2.1 c = σ.1 c := by rw [e2, stI_ne (by omega), stI_ne (by omega), stI_ne (by omega)]
  have c3 : z5.1 (b + 3) = upd (σ.1 (b + 3)) x pl := by
    rw [A 3 (by omega) (by omega), e3, stI_ne (by omega), stI_ne (by omega), stI_at, z2c _ (by omega)]
  have c4 : z5.1 (b + 4) = upd (σ.1 (b + 4)) x 0 := by
    rw [A 4 (by omega) (by omega), e3, stI_ne (by omega), stI_at, stI_ne (by omega), z2c _ (by omega)]
  have c5 : z5.1 (b + 5) = upd (σ.1 (b + 5)) x 0 := by
    rw [A 5 (by omega) (by omega), e3, stI_at, stI_ne (by omega), stI_ne (by omega), z2c _ (by omega), nbF]
  have z3c (c : Nat) (h : b + 5 < c) : z3.1 c = σ.1 c := by rw [e3, stI_ne (by omega), stI_ne (by omega), stI_ne (by omega), z2c c (by omega)]
  have c7 : z5.1 (b + 7) = upd (σ.1 (b + 7)) x (-1) := by
    rw [e5, stI_ne (by omega), stI_ne (by omega), e4, stI_at]
    show upd (z3.1 (b + 7)) x (-1) = _
    rw [z3c _ (by omega)]
  have z4c (c : Nat) (h : b + 7 < c) : z4.1 c = σ.1 c := by
    rw [e4, stI_ne (by omega)]
    exact z3c c (by omega)
  have c8 : z5.1 (b + 8) = upd (σ.1 (b + 8)) x (-1) := by rw [e5, stI_ne (by omega), stI_at, z4c _ (by omega)]
  have c9 : z5.1 (b + 9) = upd (σ.1 (b + 9)) x (-1) := by rw [e5, stI_at, stI_ne (by omega), z4c _ (by omega)]
  have c0 : z5.1 b = upd (σ.1 b) 1 (v + 1) := by
    rw [e5, stI_ne (by omega), stI_ne (by omega), e4, stI_ne (by omega)]
    show z3.1 b = _
    rw [e3, stI_ne (by omega), stI_ne (by omega), stI_ne (by omega), e2, stI_ne (by omega), stI_ne (by omega), stI_at]
  have co (c : Nat) (h : c < b ∨ b + 9 < c) : z5.1 c = σ.1 c := by
    rw [e5, stI_ne (by omega), stI_ne (by omega), e4, stI_ne (by omega)]
    show z3.1 c = _
    rw [e3, stI_ne (by omega), stI_ne (by omega), stI_ne (by omega), e2, stI_ne (by omega), stI_ne (by omega), stI_ne (by omega)]
  have z3L : z3.2 = σ.2 := by
    rw [e3, e2]
    rfl
  have cL : z5.2 = (stL z3 (b + 6) x 0).2 := by
    rw [e5, e4]
    rfl
  have c6 : z5.2.1 (b + 6) = vp_updL (σ.2.1 (b + 6)) x 0 := by
    rw [cL, stLA, z3L]
  have cl (c : Nat) (h : c ≠ b + 6) : z5.2.1 c = σ.2.1 c := by
    rw [cL, stL_ne h, z3L]
  have cE : z5.2.2 = σ.2.2 := by
    rw [cL]
    show z3.2.2 = _
    rw [z3L]
  have n0 : (z5.1 b 0).toInt = (σ.1 b 0).toInt := by rw [c0, upN (by omega)]
  have n1 : (z5.1 b 1).toInt = x + 1 := by rw [c0, upA rfl]; exact ex
  have fin (s : ST) (h1 : ∀ c, c ≠ b + 7 → c ≠ b + 8 → c ≠ b + 9 → s.1 c = z5.1 c) (h2 : s.2 = z5.2) (h3 : GRL (σ.1 (b + 7)) (σ.1 (b + 8)) (σ.1 (b + 9)) (s.1 (b + 7)) (s.1 (b + 8)) (s.1 (b + 9)) x pa.toInt l m) : GRW b x so pa pl l m σ s := by
    refine ⟨⟨fun c h => ?_, fun c h => ?_, ?_, fun j hj => ?_⟩, ?_, ⟨?_, ?_, ?_, ?_, ?_, ?_⟩, fun j hj => ⟨fun k k1 k5 => ?_, ?_⟩, h3⟩
    · rw [h1 c (by omega) (by omega) (by omega), co c h]
    · rw [h2, cl c h]
    · rw [h2, cE]
    · rw [h1 b (by omega) (by omega) (by omega), c0, upN hj]
    · rw [h1 b (by omega) (by omega) (by omega)]
      exact n1
    · rw [h1 _ (by omega) (by omega) (by omega), c1, upA rfl]
    · rw [h1 _ (by omega) (by omega) (by omega), c2, upA rfl]
    · rw [h1 _ (by omega) (by omega) (by omega), c3, upA rfl]
    · rw [h1 _ (by omega) (by omega) (by omega), c4, upA rfl]
    · rw [h1 _ (by omega) (by omega) (by omega), c5, upA rfl]
    · rw [h2, c6, upLA rfl]
    · rw [h1 _ (by omega) (by omega) (by omega)]
      have : k = 1 ∨ k = 2 ∨ k = 3 ∨ k = 4 ∨ k = 5 := by omega
      rcases this with e | e | e | e | e
      · rw [e, c1, upN hj]
      · rw [e, c2, upN hj]
      · rw [e, c3, upN hj]
      · rw [e, c4, upN hj]
      · rw [e, c5, upN hj]
    · rw [h2, c6, upLN hj]
  refine QT.bnd (pt_isRow b pa z5) (fun q hq => ?_)
  obtain ⟨w, s⟩ := q
  obtain ⟨e, hw⟩ := hq
  have e : s = z5 := e
  subst e
  have hw : w.toInt = 0 ∧ ¬ (0 ≤ pa.toInt ∧ pa.toInt < (s.1 b 1).toInt ∧ pa.toInt < (s.1 b 0).toInt) ∨ w.toInt = 1 ∧ 0 ≤ pa.toInt ∧ pa.toInt < (s.1 b 1).toInt ∧ pa.toInt < (s.1 b 0).toInt := hw
  dsimp only
  refine QT.ieq (fun e => QT.ret (.inr ⟨⟨hx, by omega⟩, fin s (fun c _ _ _ => rfl) rfl ?_⟩)) (fun e => ?_)
  · refine ⟨?_, fun j _ hj => ?_, fun j hj _ => ?_, fun q hq => ?_⟩
    · rw [c7, c8, upA rfl, upA rfl]
      exact ⟨lm, lm⟩
    · rw [c7, c8, upN hj, upN hj]
      exact ⟨rfl, rfl⟩
    · rw [c9, upN hj]
    · exfalso
      have hp : pa.toInt = -1 := by
        rcases hpa with h | h
        · exact h
        · have := h.2.1
          omega
      omega
  · rcases hpa with h | ⟨p0, px, ⟨hd, hc, hl⟩, hr, hlen, hpl, hpm⟩
    · exact absurd h (by omega)
    · have np := nN_ p0
      generalize pa.toNatClampNeg = p at np hc hl
      have hxm : x ∉ l ++ m := fun h => by have := hr x h; omega
      have hP : LKP b x p l m s := by
        refine ⟨hxm, hd, ?_, ?_⟩
        · rw [c9, c7, upN (by omega)]
          exact hc.ext _ _ (fun r h => upN (fun e => by have := hr r h; omega))
        · rw [c8, upN (by omega)]
          exact hl
      have g := a_link b v pa s (x := x) (p := p) hx np.symm hP (fun r h => by have := hr r h; omega) (by omega) (fun r h => by
        have := hr r (List.mem_append_left _ h)
        rw [c3, upN (by omega), upA rfl]
        exact hpl r h) (fun r h => by
        have := hr r (List.mem_append_right _ h)
        rw [c3, upA (j := x) rfl, upN (by omega)]
        exact hpm r h)
      refine QT.bnd g (fun t ht => QT.ret (.inr ⟨⟨hx, by omega⟩, fin t ht.1 ht.2.1 ?_⟩))
      have := GRL.of (F := σ.1 (b + 7)) (L := σ.1 (b + 8)) (N := σ.1 (b + 9)) ht.2.2 (by omega) c7 c8 (fun j hj => by rw [c9, upN hj])
      rw [np] at this
      exact this
