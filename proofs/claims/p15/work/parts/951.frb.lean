/-- the reference's reading: all but its path, its place, what it tells and its nodes -/
def KRB (s σ : ST) : Prop := (∀ c, c ≠ 0 → c ≠ 20 → (c < 23 ∨ 30 < c) → c ≠ 36 → c ≠ 41 → σ.1 c = s.1 c) ∧ (∀ i, i ≠ 46 → i ≠ 57 → i ≠ 64 → i ≠ 66 → i ≠ 67 → i ≠ 68 → i ≠ 72 → σ.1 0 i = s.1 0 i) ∧ (∀ c, c ≠ 0 → c ≠ 21 → c ≠ 22 → σ.2.1 c = s.2.1 c)
theorem KRB.rf {s : ST} : KRB s s := ⟨fun _ _ _ _ _ _ => rfl, fun _ _ _ _ _ _ _ _ => rfl, fun _ _ _ _ => rfl⟩
theorem KRB.trans {s σ u : ST} (h : KRB s σ) (k : KRB σ u) : KRB s u := ⟨fun c a d e f g => (k.1 c a d e f g).trans (h.1 c a d e f g), fun i a b c d e f g => (k.2.1 i a b c d e f g).trans (h.2.1 i a b c d e f g), fun c a d e => (k.2.2 c a d e).trans (h.2.2 c a d e)⟩
theorem KRB.i {s σ : ST} {c i : Nat} {v : Int32} (hc : c = 20 ∨ 23 ≤ c ∧ c ≤ 30 ∨ c = 36 ∨ c = 41 ∨ c = 0 ∧ (i = 46 ∨ i = 57 ∨ i = 64 ∨ i = 66 ∨ i = 67 ∨ i = 68 ∨ i = 72)) (h : KRB s σ) : KRB s (stI σ c i v) := by
  refine ⟨fun d h1 h2 h3 h4 h5 => ?_, fun j a b d e f g k => ?_, h.2.2⟩
  · rw [stI_ne (by omega)]
    exact h.1 d h1 h2 h3 h4 h5
  · by_cases e0 : c = 0
    · subst e0
      rw [stI_at, upN (by omega)]
      exact h.2.1 j a b d e f g k
    · rw [stI_ne (fun h => e0 h.symm)]
      exact h.2.1 j a b d e f g k
theorem KRB.l {s σ : ST} {c i : Nat} {v : Int64} (hc : c = 0 ∨ c = 21 ∨ c = 22) (h : KRB s σ) : KRB s (stL σ c i v) := by
  refine ⟨h.1, h.2.1, fun d h1 h2 h3 => ?_⟩
  rw [stL_ne (by omega)]
  exact h.2.2 d h1 h2 h3
theorem KRB.d {s σ : ST} {c i : Nat} {v : UInt64} (h : KRB s σ) : KRB s (stD σ c i v) := h
theorem wr_X11_fails_36 {s : ST}    : ∀ (n : Nat) (x1 : Int32) (σ : ST), KRB s σ → PF st1 (KRB s) (f_X11_fails_36  n x1 σ) := by
  intro n
  induction n with
  | zero => intro x1 σ h; rw [f_X11_fails_36]; exact PF.none
  | succ n ih =>
    intro x1 σ h
    rw [f_X11_fails_36]
    exact (PF.ite (fun _ => (PF.ret1 h)) (fun _ => (PF.ite (fun _ => (ih _ _ (KRB.i (by omega) h))) (fun _ => PF.none))))
theorem wr_X11_fails_31 {s : ST} {y0 : Int32} {σ : ST}   (h : KRB s σ) : PF st1 (KRB s) (f_X11_fails_31 y0 σ) := by
  unfold f_X11_fails_31
  exact (wr_X11_fails_36  _ _ _ (KRB.i (by omega) h))
theorem wr_X11_fails_23 {s : ST}  {σ : ST}   (h : KRB s σ) : PF st1 (KRB s) (f_X11_fails_23 σ) := by
  unfold f_X11_fails_23
  exact (wr_X11_fails_31  h)
theorem wr_X11_fails {s : ST} {p0 : Int32} {p1 : Int32} {σ : ST}   (h : KRB s σ) : PF st1 (KRB s) (f_X11_fails p0 p1 σ) := by
  unfold f_X11_fails
  exact (PF.ite (fun _ => (wr_X11_fails_23  (KRB.i (by omega) (KRB.i (by omega) h)))) (fun _ => (PF.ite (fun _ => (wr_X11_fails_23  (KRB.i (by omega) (KRB.i (by omega) h)))) (fun _ => (wr_X11_fails_31  (KRB.i (by omega) (KRB.i (by omega) h)))))))
theorem wr_X11_nextByte {s : ST}  {σ : ST}   (h : KRB s σ) : PF st1 (KRB s) (f_X11_nextByte σ) := by
  unfold f_X11_nextByte
  exact (PF.ite (fun _ => (PF.bnd (wr_X11_fails  h) (fun q2 hq2 => (PF.ret1 hq2)))) (fun _ => (PF.ite (fun _ => (PF.ret1 (KRB.i (by omega) h))) (fun _ => PF.none))))
theorem wr_X11_readsNumber_46 {s : ST} {k5 : Int32 → Int64 → Int32 → ST → Option (Int32 × ST)} {x1 : Int32} {x2 : Int64} {x4 : Int32} {x5 : Int32} {σ : ST} (h_k5 : ∀ (x1 : Int32) (x2 : Int64) (x3 : Int32) (σ : ST), KRB s σ → PF st1 (KRB s) (k5 x1 x2 x3 σ))  (h : KRB s σ) : PF st1 (KRB s) (f_X11_readsNumber_46 k5 x1 x2 x4 x5 σ) := by
  unfold f_X11_readsNumber_46
  exact (PF.ite (fun _ => (h_k5 _ _ _ _ h)) (fun _ => (PF.bnd (PF.ret0 (KRB.l (by omega) h)) (fun z1 hz1 => (PF.ret1 hz1)))))
theorem wr_X11_readsNumber_5 {s : ST}    : ∀ (n : Nat) (x1 : Int32) (x2 : Int64) (x3 : Int32) (σ : ST), KRB s σ → PF st1 (KRB s) (f_X11_readsNumber_5  n x1 x2 x3 σ) := by
  intro n
  induction n with
  | zero => intro x1 x2 x3 σ h; rw [f_X11_readsNumber_5]; exact PF.none
  | succ n ih =>
    intro x1 x2 x3 σ h
    rw [f_X11_readsNumber_5]
    exact (PF.ite (fun _ => (PF.ret1 h)) (fun _ => (PF.bnd (wr_X11_nextByte  h) (fun q1 hq1 => (PF.ite (fun _ => (PF.ite (fun _ => (PF.ite (fun _ => (wr_X11_readsNumber_46 ih hq1)) (fun _ => (PF.bnd (wr_X11_fails  hq1) (fun q3 hq3 => (PF.ite (fun _ => (PF.ret1 hq3)) (fun _ => PF.none))))))) (fun _ => (wr_X11_readsNumber_46 ih hq1)))) (fun _ => (PF.ret1 hq1)))))))
theorem wr_X11_readsNumber {s : ST} {p0 : Int32} {σ : ST}   (h : KRB s σ) : PF st1 (KRB s) (f_X11_readsNumber p0 σ) := by
  unfold f_X11_readsNumber
  exact (wr_X11_readsNumber_5  _ _ _ _ _ h)
theorem wr_X11_within {s : ST} {p0 : Int64} {p1 : Int64} {p2 : Int64} {σ : ST}   (h : KRB s σ) : PF st1 (KRB s) (f_X11_within p0 p1 p2 σ) := by
  unfold f_X11_within
  exact (PF.ite (fun _ => (PF.ret1 h)) (fun _ => (PF.ite (fun _ => (PF.ret1 h)) (fun _ => (PF.ret1 h)))))
theorem wr_X11_readsInt_31 {s : ST}  {σ : ST}   (h : KRB s σ) : PF st1 (KRB s) (f_X11_readsInt_31 σ) := by
  unfold f_X11_readsInt_31
  exact (PF.ret1 h)
theorem wr_X11_readsInt {s : ST} {p0 : Int32} {p1 : Int64} {p2 : Int64} {σ : ST}   (h : KRB s σ) : PF st1 (KRB s) (f_X11_readsInt p0 p1 p2 σ) := by
  unfold f_X11_readsInt
  exact (PF.bnd (wr_X11_readsNumber  h) (fun q1 hq1 => (PF.ite (fun _ => (PF.ret1 hq1)) (fun _ => (PF.bnd (wr_X11_within  hq1) (fun q3 hq3 => (PF.ite (fun _ => (PF.bnd (wr_X11_fails  hq3) (fun q5 hq5 => (PF.ite (fun _ => (PF.ret1 hq5)) (fun _ => (wr_X11_readsInt_31  hq5)))))) (fun _ => (wr_X11_readsInt_31  hq3)))))))))
theorem wr_X11_enters {s : ST} {p0 : Int32} {σ : ST}   (h : KRB s σ) : PF st0 (KRB s) (f_X11_enters p0 σ) := by
  unfold f_X11_enters
  exact (PF.ite (fun _ => (PF.bnd (PF.ret0 (KRB.i (by omega) (KRB.i (by omega) h))) (fun z2 hz2 => (PF.ret0 hz2)))) (fun _ => PF.none))
theorem wr_X11_reads_96 {s : ST} {r_X11_reads : Int32 → Int32 → Int32 → Int32 → Int32 → ST → Option (Int32 × ST)} {r_X11_readsItems : Int32 → Int32 → Int32 → Int32 → ST → Option (Int32 × ST)} {r_X11_readsRecord : Int32 → Int32 → Int32 → Int32 → ST → Option (Int32 × ST)} {x2 : Int32} {x3 : Int32} {x4 : Int32} {x5 : Int32} {x7 : Int32} {x8 : Int32} {σ : ST} (h_r_X11_reads : ∀ (x1 : Int32) (x2 : Int32) (x3 : Int32) (x4 : Int32) (x5 : Int32) (σ : ST), KRB s σ → PF st1 (KRB s) (r_X11_reads x1 x2 x3 x4 x5 σ)) (h_r_X11_readsItems : ∀ (x1 : Int32) (x2 : Int32) (x3 : Int32) (x4 : Int32) (σ : ST), KRB s σ → PF st1 (KRB s) (r_X11_readsItems x1 x2 x3 x4 σ)) (h_r_X11_readsRecord : ∀ (x1 : Int32) (x2 : Int32) (x3 : Int32) (x4 : Int32) (σ : ST), KRB s σ → PF st1 (KRB s) (r_X11_readsRecord x1 x2 x3 x4 σ))  (h : KRB s σ) : PF st1 (KRB s) (f_X11_reads_96 r_X11_reads r_X11_readsItems r_X11_readsRecord x2 x3 x4 x5 x7 x8 σ) := by
  unfold f_X11_reads_96
  exact (PF.bnd (wr_X11_enters  h) (fun q1 hq1 => (PF.bnd (h_r_X11_reads _ _ _ _ _ _ hq1) (fun q3 hq3 => (PF.ite (fun _ => (PF.ret1 (KRB.i (by omega) hq3))) (fun _ => PF.none))))))
theorem wr_X11_chosen_69 {s : ST} {r_X11_chosen : Int32 → Int32 → ST → Option (Int32 × ST)} {r_X11_match : Int32 → Int32 → ST → Option (Int32 × ST)} {k5 : Int32 → Int32 → Int32 → Int32 → ST → Option (Int32 × ST)} {x1 : Int32} {x2 : Int32} {x3 : Int32} {x4 : Int32} {σ : ST} (h_r_X11_chosen : ∀ (x1 : Int32) (x2 : Int32) (σ : ST), KRB s σ → PF st1 (KRB s) (r_X11_chosen x1 x2 σ)) (h_r_X11_match : ∀ (x1 : Int32) (x2 : Int32) (σ : ST), KRB s σ → PF st1 (KRB s) (r_X11_match x1 x2 σ)) (h_k5 : ∀ (x1 : Int32) (x2 : Int32) (x3 : Int32) (x4 : Int32) (σ : ST), KRB s σ → PF st1 (KRB s) (k5 x1 x2 x3 x4 σ))  (h : KRB s σ) : PF st1 (KRB s) (f_X11_chosen_69 r_X11_chosen r_X11_match k5 x1 x2 x3 x4 σ) := by
  unfold f_X11_chosen_69
  exact (h_k5 _ _ _ _ _ h)
theorem wr_X11_chosen_68 {s : ST} {r_X11_chosen : Int32 → Int32 → ST → Option (Int32 × ST)} {r_X11_match : Int32 → Int32 → ST → Option (Int32 × ST)} {k5 : Int32 → Int32 → Int32 → Int32 → ST → Option (Int32 × ST)} {x1 : Int32} {x2 : Int32} {x4 : Int32} {y0 : Int32} {σ : ST} (h_r_X11_chosen : ∀ (x1 : Int32) (x2 : Int32) (σ : ST), KRB s σ → PF st1 (KRB s) (r_X11_chosen x1 x2 σ)) (h_r_X11_match : ∀ (x1 : Int32) (x2 : Int32) (σ : ST), KRB s σ → PF st1 (KRB s) (r_X11_match x1 x2 σ)) (h_k5 : ∀ (x1 : Int32) (x2 : Int32) (x3 : Int32) (x4 : Int32) (σ : ST), KRB s σ → PF st1 (KRB s) (k5 x1 x2 x3 x4 σ))  (h : KRB s σ) : PF st1 (KRB s) (f_X11_chosen_68 r_X11_chosen r_X11_match k5 x1 x2 x4 y0 σ) := by
  unfold f_X11_chosen_68
  exact (wr_X11_chosen_69 h_r_X11_chosen h_r_X11_match h_k5 h)
theorem wr_X11_chosen_5 {s : ST} {r_X11_chosen : Int32 → Int32 → ST → Option (Int32 × ST)} {r_X11_match : Int32 → Int32 → ST → Option (Int32 × ST)} (h_r_X11_chosen : ∀ (x1 : Int32) (x2 : Int32) (σ : ST), KRB s σ → PF st1 (KRB s) (r_X11_chosen x1 x2 σ)) (h_r_X11_match : ∀ (x1 : Int32) (x2 : Int32) (σ : ST), KRB s σ → PF st1 (KRB s) (r_X11_match x1 x2 σ))  : ∀ (n : Nat) (x1 : Int32) (x2 : Int32) (x3 : Int32) (x4 : Int32) (σ : ST), KRB s σ → PF st1 (KRB s) (f_X11_chosen_5 r_X11_chosen r_X11_match n x1 x2 x3 x4 σ) := by
  intro n
  induction n with
  | zero => intro x1 x2 x3 x4 σ h; rw [f_X11_chosen_5]; exact PF.none
  | succ n ih =>
    intro x1 x2 x3 x4 σ h
    rw [f_X11_chosen_5]
    exact (PF.ite (fun _ => (PF.ite (fun _ => (PF.ret1 h)) (fun _ => (PF.ite (fun _ => (PF.bnd (h_r_X11_match _ _ _ h) (fun q3 hq3 => (PF.ite (fun _ => (wr_X11_chosen_69 h_r_X11_chosen h_r_X11_match ih hq3)) (fun _ => (PF.ite (fun _ => (PF.ite (fun _ => (PF.ite (fun _ => (PF.ret1 hq3)) (fun _ => (PF.ite (fun _ => (wr_X11_chosen_68 h_r_X11_chosen h_r_X11_match ih hq3)) (fun _ => (wr_X11_chosen_68 h_r_X11_chosen h_r_X11_match ih hq3)))))) (fun _ => PF.none))) (fun _ => PF.none))))))) (fun _ => PF.none))))) (fun _ => PF.none))
theorem wr_X11_chosen {s : ST} {r_X11_chosen : Int32 → Int32 → ST → Option (Int32 × ST)} {r_X11_match : Int32 → Int32 → ST → Option (Int32 × ST)} {p0 : Int32} {p1 : Int32} {σ : ST} (h_r_X11_chosen : ∀ (x1 : Int32) (x2 : Int32) (σ : ST), KRB s σ → PF st1 (KRB s) (r_X11_chosen x1 x2 σ)) (h_r_X11_match : ∀ (x1 : Int32) (x2 : Int32) (σ : ST), KRB s σ → PF st1 (KRB s) (r_X11_match x1 x2 σ))  (h : KRB s σ) : PF st1 (KRB s) (f_X11_chosen r_X11_chosen r_X11_match p0 p1 σ) := by
  unfold f_X11_chosen
  exact (wr_X11_chosen_5 h_r_X11_chosen h_r_X11_match _ _ _ _ _ _ h)
theorem wr_X11_match_55 {s : ST} {r_X11_chosen : Int32 → Int32 → ST → Option (Int32 × ST)} {r_X11_match : Int32 → Int32 → ST → Option (Int32 × ST)} {k16 : Int32 → Int32 → Int32 → Int32 → ST → Option (Int32 × ST)} {x1 : Int32} {x2 : Int32} {x4 : Int32} {y0 : Int32} {σ : ST} (h_r_X11_chosen : ∀ (x1 : Int32) (x2 : Int32) (σ : ST), KRB s σ → PF st1 (KRB s) (r_X11_chosen x1 x2 σ)) (h_r_X11_match : ∀ (x1 : Int32) (x2 : Int32) (σ : ST), KRB s σ → PF st1 (KRB s) (r_X11_match x1 x2 σ)) (h_k16 : ∀ (x1 : Int32) (x2 : Int32) (x3 : Int32) (x4 : Int32) (σ : ST), KRB s σ → PF st1 (KRB s) (k16 x1 x2 x3 x4 σ))  (h : KRB s σ) : PF st1 (KRB s) (f_X11_match_55 r_X11_chosen r_X11_match k16 x1 x2 x4 y0 σ) := by
  unfold f_X11_match_55
  exact (h_k16 _ _ _ _ _ h)
theorem wr_X11_match_50 {s : ST} {r_X11_chosen : Int32 → Int32 → ST → Option (Int32 × ST)} {r_X11_match : Int32 → Int32 → ST → Option (Int32 × ST)} {k16 : Int32 → Int32 → Int32 → Int32 → ST → Option (Int32 × ST)} {x1 : Int32} {x2 : Int32} {x4 : Int32} {σ : ST} (h_r_X11_chosen : ∀ (x1 : Int32) (x2 : Int32) (σ : ST), KRB s σ → PF st1 (KRB s) (r_X11_chosen x1 x2 σ)) (h_r_X11_match : ∀ (x1 : Int32) (x2 : Int32) (σ : ST), KRB s σ → PF st1 (KRB s) (r_X11_match x1 x2 σ)) (h_k16 : ∀ (x1 : Int32) (x2 : Int32) (x3 : Int32) (x4 : Int32) (σ : ST), KRB s σ → PF st1 (KRB s) (k16 x1 x2 x3 x4 σ))  (h : KRB s σ) : PF st1 (KRB s) (f_X11_match_50 r_X11_chosen r_X11_match k16 x1 x2 x4 σ) := by
  unfold f_X11_match_50
  exact (wr_X11_match_55 h_r_X11_chosen h_r_X11_match h_k16 h)
theorem wr_X11_match_16 {s : ST} {r_X11_chosen : Int32 → Int32 → ST → Option (Int32 × ST)} {r_X11_match : Int32 → Int32 → ST → Option (Int32 × ST)} (h_r_X11_chosen : ∀ (x1 : Int32) (x2 : Int32) (σ : ST), KRB s σ → PF st1 (KRB s) (r_X11_chosen x1 x2 σ)) (h_r_X11_match : ∀ (x1 : Int32) (x2 : Int32) (σ : ST), KRB s σ → PF st1 (KRB s) (r_X11_match x1 x2 σ))  : ∀ (n : Nat) (x1 : Int32) (x2 : Int32) (x3 : Int32) (x4 : Int32) (σ : ST), KRB s σ → PF st1 (KRB s) (f_X11_match_16 r_X11_chosen r_X11_match n x1 x2 x3 x4 σ) := by
  intro n
  induction n with
  | zero => intro x1 x2 x3 x4 σ h; rw [f_X11_match_16]; exact PF.none
  | succ n ih =>
    intro x1 x2 x3 x4 σ h
    rw [f_X11_match_16]
    exact (PF.ite (fun _ => (PF.ite (fun _ => (PF.ite (fun _ => (PF.ret1 h)) (fun _ => PF.none))) (fun _ => (PF.ite (fun _ => (PF.ite (fun _ => (PF.bnd (h_r_X11_match _ _ _ h) (fun q3 hq3 => (PF.ite (fun _ => (wr_X11_match_55 h_r_X11_chosen h_r_X11_match ih hq3)) (fun _ => (wr_X11_match_50 h_r_X11_chosen h_r_X11_match ih hq3)))))) (fun _ => PF.none))) (fun _ => (wr_X11_match_50 h_r_X11_chosen h_r_X11_match ih h)))))) (fun _ => PF.none))
theorem wr_X11_match_204 {s : ST} {r_X11_chosen : Int32 → Int32 → ST → Option (Int32 × ST)} {r_X11_match : Int32 → Int32 → ST → Option (Int32 × ST)} {σ : ST} (h_r_X11_chosen : ∀ (x1 : Int32) (x2 : Int32) (σ : ST), KRB s σ → PF st1 (KRB s) (r_X11_chosen x1 x2 σ)) (h_r_X11_match : ∀ (x1 : Int32) (x2 : Int32) (σ : ST), KRB s σ → PF st1 (KRB s) (r_X11_match x1 x2 σ))  (h : KRB s σ) : PF st1 (KRB s) (f_X11_match_204 r_X11_chosen r_X11_match σ) := by
  unfold f_X11_match_204
  exact (PF.ret1 h)
theorem wr_X11_match_193 {s : ST} {r_X11_chosen : Int32 → Int32 → ST → Option (Int32 × ST)} {r_X11_match : Int32 → Int32 → ST → Option (Int32 × ST)} {x3 : Int32} {x4 : Int32} {σ : ST} (h_r_X11_chosen : ∀ (x1 : Int32) (x2 : Int32) (σ : ST), KRB s σ → PF st1 (KRB s) (r_X11_chosen x1 x2 σ)) (h_r_X11_match : ∀ (x1 : Int32) (x2 : Int32) (σ : ST), KRB s σ → PF st1 (KRB s) (r_X11_match x1 x2 σ))  (h : KRB s σ) : PF st1 (KRB s) (f_X11_match_193 r_X11_chosen r_X11_match x3 x4 σ) := by
  unfold f_X11_match_193
  exact (PF.ite (fun _ => (PF.ite (fun _ => (wr_X11_match_204 h_r_X11_chosen h_r_X11_match h)) (fun _ => (PF.ret1 h)))) (fun _ => (PF.ret1 h)))
theorem wr_X11_match_170 {s : ST} {r_X11_chosen : Int32 → Int32 → ST → Option (Int32 × ST)} {r_X11_match : Int32 → Int32 → ST → Option (Int32 × ST)} {x3 : Int32} {x4 : Int32} {σ : ST} (h_r_X11_chosen : ∀ (x1 : Int32) (x2 : Int32) (σ : ST), KRB s σ → PF st1 (KRB s) (r_X11_chosen x1 x2 σ)) (h_r_X11_match : ∀ (x1 : Int32) (x2 : Int32) (σ : ST), KRB s σ → PF st1 (KRB s) (r_X11_match x1 x2 σ))  (h : KRB s σ) : PF st1 (KRB s) (f_X11_match_170 r_X11_chosen r_X11_match x3 x4 σ) := by
  unfold f_X11_match_170
  exact (PF.ite (fun _ => (wr_X11_match_204 h_r_X11_chosen h_r_X11_match h)) (fun _ => (PF.ite (fun _ => (PF.ite (fun _ => (wr_X11_match_204 h_r_X11_chosen h_r_X11_match h)) (fun _ => (PF.ite (fun _ => (wr_X11_match_204 h_r_X11_chosen h_r_X11_match h)) (fun _ => (wr_X11_match_193 h_r_X11_chosen h_r_X11_match h)))))) (fun _ => (wr_X11_match_193 h_r_X11_chosen h_r_X11_match h)))))
theorem wr_X11_match_135 {s : ST} {r_X11_chosen : Int32 → Int32 → ST → Option (Int32 × ST)} {r_X11_match : Int32 → Int32 → ST → Option (Int32 × ST)} {x1 : Int32} {x2 : Int32} {x3 : Int32} {x4 : Int32} {σ : ST} (h_r_X11_chosen : ∀ (x1 : Int32) (x2 : Int32) (σ : ST), KRB s σ → PF st1 (KRB s) (r_X11_chosen x1 x2 σ)) (h_r_X11_match : ∀ (x1 : Int32) (x2 : Int32) (σ : ST), KRB s σ → PF st1 (KRB s) (r_X11_match x1 x2 σ))  (h : KRB s σ) : PF st1 (KRB s) (f_X11_match_135 r_X11_chosen r_X11_match x1 x2 x3 x4 σ) := by
  unfold f_X11_match_135
  exact (PF.ite (fun _ => (PF.ite (fun _ => (PF.ite (fun _ => (PF.ite (fun _ => (PF.ite (fun _ => (PF.ite (fun _ => (PF.ret1 h)) (fun _ => PF.none))) (fun _ => PF.none))) (fun _ => PF.none))) (fun _ => PF.none))) (fun _ => (wr_X11_match_170 h_r_X11_chosen h_r_X11_match h)))) (fun _ => (wr_X11_match_170 h_r_X11_chosen h_r_X11_match h)))
theorem wr_X11_match {s : ST} {r_X11_chosen : Int32 → Int32 → ST → Option (Int32 × ST)} {r_X11_match : Int32 → Int32 → ST → Option (Int32 × ST)} {p0 : Int32} {p1 : Int32} {σ : ST} (h_r_X11_chosen : ∀ (x1 : Int32) (x2 : Int32) (σ : ST), KRB s σ → PF st1 (KRB s) (r_X11_chosen x1 x2 σ)) (h_r_X11_match : ∀ (x1 : Int32) (x2 : Int32) (σ : ST), KRB s σ → PF st1 (KRB s) (r_X11_match x1 x2 σ))  (h : KRB s σ) : PF st1 (KRB s) (f_X11_match r_X11_chosen r_X11_match p0 p1 σ) := by
  unfold f_X11_match
  exact (PF.ite (fun _ => (PF.ite (fun _ => (wr_X11_match_16 h_r_X11_chosen h_r_X11_match _ _ _ _ _ _ h)) (fun _ => (PF.ite (fun _ => (PF.ite (fun _ => (PF.bnd (h_r_X11_chosen _ _ _ h) (fun q5 hq5 => (PF.ite (fun _ => (PF.ret1 hq5)) (fun _ => (PF.ret1 hq5)))))) (fun _ => (PF.ite (fun _ => (PF.ite (fun _ => (PF.bnd (h_r_X11_match _ _ _ h) (fun q3 hq3 => (PF.ite (fun _ => (PF.ret1 hq3)) (fun _ => PF.none))))) (fun _ => (wr_X11_match_135 h_r_X11_chosen h_r_X11_match h)))) (fun _ => (wr_X11_match_135 h_r_X11_chosen h_r_X11_match h)))))) (fun _ => PF.none))))) (fun _ => PF.none))
theorem wrR_X11_chosen {s : ST} : ∀ n : Nat, (∀ (p0 : Int32) (p1 : Int32) (σ : ST), KRB s σ → PF st1 (KRB s) ((R_X11_chosen n).1 p0 p1 σ)) ∧ (∀ (p0 : Int32) (p1 : Int32) (σ : ST), KRB s σ → PF st1 (KRB s) ((R_X11_chosen n).2 p0 p1 σ)) := by
  intro n
  induction n with
  | zero => exact ⟨fun _ _ _ _ => PF.none, fun _ _ _ _ => PF.none⟩
  | succ n ih => exact ⟨fun _ _ _ h => wr_X11_chosen (ih.1) (ih.2)  h, fun _ _ _ h => wr_X11_match (ih.1) (ih.2)  h⟩
theorem wr_T_X11_match {s : ST} {p0 : Int32} {p1 : Int32} {σ : ST} (h : KRB s σ) : PF st1 (KRB s) (f_T_X11_match p0 p1 σ) := (wrR_X11_chosen FRB).2 _ _ _  h
theorem wr_X11_readsFlag_30 {s : ST}  {σ : ST}   (h : KRB s σ) : PF st1 (KRB s) (f_X11_readsFlag_30 σ) := by
  unfold f_X11_readsFlag_30
  exact (PF.ret1 h)
theorem wr_X11_readsFlag {s : ST} {p0 : Int32} {σ : ST}   (h : KRB s σ) : PF st1 (KRB s) (f_X11_readsFlag p0 σ) := by
  unfold f_X11_readsFlag
  exact (PF.bnd (wr_X11_nextByte  h) (fun q1 hq1 => (PF.ite (fun _ => (PF.ret1 (KRB.l (by omega) hq1))) (fun _ => (PF.ite (fun _ => (wr_X11_readsFlag_30  (KRB.l (by omega) hq1))) (fun _ => (PF.bnd (wr_X11_fails  (KRB.l (by omega) hq1)) (fun q3 hq3 => (PF.ite (fun _ => (PF.ret1 hq3)) (fun _ => (wr_X11_readsFlag_30  hq3)))))))))))
theorem wr_X11_readsLeaf_229 {s : ST} {x5 : Int32} {y0 : Int32} {y1 : Int32} {σ : ST}   (h : KRB s σ) : PF st1 (KRB s) (f_X11_readsLeaf_229 x5 y0 y1 σ) := by
  unfold f_X11_readsLeaf_229
  exact (PF.ite (fun _ => (PF.ite (fun _ => (PF.ret1 (KRB.i (by omega) h))) (fun _ => PF.none))) (fun _ => PF.none))
theorem wr_X11_readsLeaf_209 {s : ST} {x3 : Int32} {x5 : Int32} {x6 : Int32} {y0 : Int64} {y1 : Int32} {σ : ST}   (h : KRB s σ) : PF st1 (KRB s) (f_X11_readsLeaf_209 x3 x5 x6 y0 y1 σ) := by
  unfold f_X11_readsLeaf_209
  exact (PF.ite (fun _ => (PF.ite (fun _ => (wr_X11_readsLeaf_229  (KRB.l (by omega) h))) (fun _ => (wr_X11_readsLeaf_229  (KRB.l (by omega) h))))) (fun _ => PF.none))
theorem wr_X11_readsLeaf_189 {s : ST} {x3 : Int32} {x5 : Int32} {x6 : Int32} {y0 : Int64} {y1 : Int32} {σ : ST}   (h : KRB s σ) : PF st1 (KRB s) (f_X11_readsLeaf_189 x3 x5 x6 y0 y1 σ) := by
  unfold f_X11_readsLeaf_189
  exact (PF.ite (fun _ => (PF.ite (fun _ => (wr_X11_readsLeaf_209  (KRB.l (by omega) h))) (fun _ => (wr_X11_readsLeaf_209  (KRB.l (by omega) h))))) (fun _ => PF.none))
theorem wr_Jxe99ae_isNaN_b9ae7 {s : ST} {p0 : UInt64} {σ : ST}   (h : KRB s σ) : PF st1 (KRB s) (f_Jxe99ae_isNaN_b9ae7 p0 σ) := by
  unfold f_Jxe99ae_isNaN_b9ae7
  exact (PF.ite (fun _ => (PF.ret1 h)) (fun _ => (PF.ret1 h)))
theorem wr_Jxe99ae_doubleToLongBits_ccdee {s : ST} {p0 : UInt64} {σ : ST}   (h : KRB s σ) : PF st1 (KRB s) (f_Jxe99ae_doubleToLongBits_ccdee p0 σ) := by
  unfold f_Jxe99ae_doubleToLongBits_ccdee
  exact (PF.bnd (wr_Jxe99ae_isNaN_b9ae7  h) (fun q1 hq1 => (PF.ite (fun _ => (PF.ret1 hq1)) (fun _ => (PF.ret1 hq1)))))
theorem wr_X11_readsLeaf_155 {s : ST} {x3 : Int32} {x5 : Int32} {x6 : Int32} {x7 : Int32} {y0 : UInt64} {σ : ST}   (h : KRB s σ) : PF st1 (KRB s) (f_X11_readsLeaf_155 x3 x5 x6 x7 y0 σ) := by
  unfold f_X11_readsLeaf_155
  exact (PF.ite (fun _ => (wr_X11_readsLeaf_189  h)) (fun _ => (PF.ite (fun _ => (wr_X11_readsLeaf_189  h)) (fun _ => (PF.bnd (wr_Jxe99ae_doubleToLongBits_ccdee  h) (fun q1 hq1 => (wr_X11_readsLeaf_189  hq1)))))))
theorem wr_X11_readsLeaf_132 {s : ST} {x3 : Int32} {x5 : Int32} {x6 : Int32} {y0 : Int32} {σ : ST}   (h : KRB s σ) : PF st1 (KRB s) (f_X11_readsLeaf_132 x3 x5 x6 y0 σ) := by
  unfold f_X11_readsLeaf_132
  exact (PF.ite (fun _ => (wr_X11_readsLeaf_155  h)) (fun _ => (wr_X11_readsLeaf_155  h)))
theorem wr_X11_readsLeaf_108 {s : ST} {x2 : Int32} {x3 : Int32} {x5 : Int32} {x6 : Int32} {σ : ST}   (h : KRB s σ) : PF st1 (KRB s) (f_X11_readsLeaf_108 x2 x3 x5 x6 σ) := by
  unfold f_X11_readsLeaf_108
  exact (PF.ite (fun _ => (PF.ite (fun _ => (PF.ret1 h)) (fun _ => PF.none))) (fun _ => (PF.ite (fun _ => (PF.ite (fun _ => (PF.ret1 h)) (fun _ => PF.none))) (fun _ => (PF.ite (fun _ => (PF.ite (fun _ => (wr_X11_readsLeaf_132  h)) (fun _ => (wr_X11_readsLeaf_132  h)))) (fun _ => PF.none))))))
theorem wr_X11_readsReal_7 {s : ST}    : ∀ (n : Nat) (x1 : Int32) (σ : ST), KRB s σ → PF st1 (KRB s) (f_X11_readsReal_7  n x1 σ) := by
  intro n
  induction n with
  | zero => intro x1 σ h; rw [f_X11_readsReal_7]; exact PF.none
  | succ n ih =>
    intro x1 σ h
    rw [f_X11_readsReal_7]
    exact (PF.ite (fun _ => (PF.ret1 h)) (fun _ => (PF.bnd (wr_X11_nextByte  h) (fun q1 hq1 => (PF.ite (fun _ => (ih _ _ (KRB.l (by omega) hq1))) (fun _ => (PF.ret1 hq1)))))))
theorem wr_X11_readsReal {s : ST}  {σ : ST}   (h : KRB s σ) : PF st1 (KRB s) (f_X11_readsReal σ) := by
  unfold f_X11_readsReal
  exact (wr_X11_readsReal_7  _ _ _ (KRB.l (by omega) h))
theorem wr_X11_isLetter {s : ST} {p0 : Int32} {σ : ST}   (h : KRB s σ) : PF st1 (KRB s) (f_X11_isLetter p0 σ) := by
  unfold f_X11_isLetter
  exact (PF.bnd (wr_X11_within  h) (fun q1 hq1 => (PF.ite (fun _ => (PF.ret1 hq1)) (fun _ => PF.none))))
theorem wr_X11_readsText_32 {s : ST}    : ∀ (n : Nat) (x1 : Int32) (x2 : Int32) (x3 : Int32) (σ : ST), KRB s σ → PF st1 (KRB s) (f_X11_readsText_32  n x1 x2 x3 σ) := by
  intro n
  induction n with
  | zero => intro x1 x2 x3 σ h; rw [f_X11_readsText_32]; exact PF.none
  | succ n ih =>
    intro x1 x2 x3 σ h
    rw [f_X11_readsText_32]
    exact (PF.ite (fun _ => (PF.ret1 h)) (fun _ => (PF.bnd (wr_X11_nextByte  h) (fun q1 hq1 => (PF.ite (fun _ => (PF.bnd (wr_X11_isLetter  hq1) (fun q3 hq3 => (PF.ite (fun _ => (PF.bnd (wr_X11_fails  hq3) (fun q5 hq5 => (PF.ite (fun _ => (PF.ret1 hq5)) (fun _ => PF.none))))) (fun _ => (ih _ _ _ _ (KRB.l (by omega) hq3))))))) (fun _ => (PF.ret1 hq1)))))))
theorem wr_X11_readsText {s : ST} {p0 : Int32} {σ : ST}   (h : KRB s σ) : PF st1 (KRB s) (f_X11_readsText p0 σ) := by
  unfold f_X11_readsText
  exact (PF.bnd (wr_X11_readsInt  h) (fun q1 hq1 => (PF.ite (fun _ => (PF.ret1 hq1)) (fun _ => (wr_X11_readsText_32  _ _ _ _ _ (KRB.i (by omega) (KRB.l (by omega) hq1)))))))
theorem wr_X11_readsLeaf {s : ST} {p0 : Int32} {p1 : Int32} {p2 : Int32} {σ : ST}   (h : KRB s σ) : PF st1 (KRB s) (f_X11_readsLeaf p0 p1 p2 σ) := by
  unfold f_X11_readsLeaf
  exact (PF.ite (fun _ => (PF.ite (fun _ => (PF.bnd (wr_X11_readsFlag  (KRB.l (by omega) h)) (fun q10 hq10 => (wr_X11_readsLeaf_108  hq10)))) (fun _ => (PF.ite (fun _ => (PF.bnd (wr_X11_readsInt  (KRB.l (by omega) h)) (fun q8 hq8 => (wr_X11_readsLeaf_108  hq8)))) (fun _ => (PF.ite (fun _ => (PF.bnd (wr_X11_readsNumber  (KRB.l (by omega) h)) (fun q6 hq6 => (wr_X11_readsLeaf_108  hq6)))) (fun _ => (PF.ite (fun _ => (PF.bnd (wr_X11_readsReal  (KRB.l (by omega) h)) (fun q4 hq4 => (wr_X11_readsLeaf_108  hq4)))) (fun _ => (PF.ite (fun _ => (PF.bnd (wr_X11_readsText  (KRB.l (by omega) h)) (fun q2 hq2 => (wr_X11_readsLeaf_108  hq2)))) (fun _ => (wr_X11_readsLeaf_108  (KRB.l (by omega) h))))))))))))) (fun _ => PF.none))
theorem wr_X11_reads_227 {s : ST} {r_X11_reads : Int32 → Int32 → Int32 → Int32 → Int32 → ST → Option (Int32 × ST)} {r_X11_readsItems : Int32 → Int32 → Int32 → Int32 → ST → Option (Int32 × ST)} {r_X11_readsRecord : Int32 → Int32 → Int32 → Int32 → ST → Option (Int32 × ST)} {x1 : Int32} {x3 : Int32} {x8 : Int32} {x9 : Int32} {σ : ST} (h_r_X11_reads : ∀ (x1 : Int32) (x2 : Int32) (x3 : Int32) (x4 : Int32) (x5 : Int32) (σ : ST), KRB s σ → PF st1 (KRB s) (r_X11_reads x1 x2 x3 x4 x5 σ)) (h_r_X11_readsItems : ∀ (x1 : Int32) (x2 : Int32) (x3 : Int32) (x4 : Int32) (σ : ST), KRB s σ → PF st1 (KRB s) (r_X11_readsItems x1 x2 x3 x4 σ)) (h_r_X11_readsRecord : ∀ (x1 : Int32) (x2 : Int32) (x3 : Int32) (x4 : Int32) (σ : ST), KRB s σ → PF st1 (KRB s) (r_X11_readsRecord x1 x2 x3 x4 σ))  (h : KRB s σ) : PF st1 (KRB s) (f_X11_reads_227 r_X11_reads r_X11_readsItems r_X11_readsRecord x1 x3 x8 x9 σ) := by
  unfold f_X11_reads_227
  exact (PF.ite (fun _ => (PF.ite (fun _ => (PF.bnd (h_r_X11_readsItems _ _ _ _ _ h) (fun q4 hq4 => (PF.ite (fun _ => (PF.ret1 hq4)) (fun _ => PF.none))))) (fun _ => (PF.ite (fun _ => (PF.bnd (h_r_X11_readsRecord _ _ _ _ _ h) (fun q6 hq6 => (PF.ite (fun _ => (PF.ret1 hq6)) (fun _ => PF.none))))) (fun _ => (PF.bnd (wr_X11_readsLeaf  h) (fun q8 hq8 => (PF.ite (fun _ => (PF.ret1 hq8)) (fun _ => PF.none))))))))) (fun _ => PF.none))
theorem wr_X11_joins_147 {s : ST} {x1 : Int32} {x2 : Int32} {σ : ST}   (h : KRB s σ) : PF st0 (KRB s) (f_X11_joins_147 x1 x2 σ) := by
  unfold f_X11_joins_147
  exact (PF.ite (fun _ => (PF.ite (fun _ => (PF.ret0 h)) (fun _ => (PF.ite (fun _ => (PF.ret0 (KRB.i (by omega) h))) (fun _ => PF.none))))) (fun _ => PF.none))
theorem wr_X11_joins_125 {s : ST} {x1 : Int32} {x2 : Int32} {x3 : Int32} {y0 : Int32} {y1 : Int32} {σ : ST}   (h : KRB s σ) : PF st0 (KRB s) (f_X11_joins_125 x1 x2 x3 y0 y1 σ) := by
  unfold f_X11_joins_125
  exact (PF.ite (fun _ => (PF.ite (fun _ => (PF.ite (fun _ => (wr_X11_joins_147  (KRB.i (by omega) (KRB.i (by omega) h)))) (fun _ => PF.none))) (fun _ => (PF.ite (fun _ => (wr_X11_joins_147  (KRB.i (by omega) (KRB.i (by omega) h)))) (fun _ => PF.none))))) (fun _ => PF.none))
theorem wr_X11_joins_101 {s : ST} {x1 : Int32} {x2 : Int32} {x3 : Int32} {σ : ST}   (h : KRB s σ) : PF st0 (KRB s) (f_X11_joins_101 x1 x2 x3 σ) := by
  unfold f_X11_joins_101
  exact (PF.ite (fun _ => (PF.ite (fun _ => (wr_X11_joins_125  h)) (fun _ => PF.none))) (fun _ => (PF.ite (fun _ => (wr_X11_joins_125  h)) (fun _ => PF.none))))
theorem wr_X11_joins_65 {s : ST}    : ∀ (n : Nat) (x1 : Int32) (x2 : Int32) (x3 : Int32) (x4 : Int32) (σ : ST), KRB s σ → PF st0 (KRB s) (f_X11_joins_65  n x1 x2 x3 x4 σ) := by
  intro n
  induction n with
  | zero => intro x1 x2 x3 x4 σ h; rw [f_X11_joins_65]; exact PF.none
  | succ n ih =>
    intro x1 x2 x3 x4 σ h
    rw [f_X11_joins_65]
    exact (PF.ite (fun _ => (wr_X11_joins_101  h)) (fun _ => (PF.ite (fun _ => (PF.ite (fun _ => (PF.ite (fun _ => (wr_X11_joins_101  h)) (fun _ => (ih _ _ _ _ _ h)))) (fun _ => PF.none))) (fun _ => PF.none))))
theorem wr_X11_joins_51 {s : ST} {x1 : Int32} {x2 : Int32} {x3 : Int32} {y0 : Int32} {σ : ST}   (h : KRB s σ) : PF st0 (KRB s) (f_X11_joins_51 x1 x2 x3 y0 σ) := by
  unfold f_X11_joins_51
  exact (PF.ite (fun _ => (wr_X11_joins_65  _ _ _ _ _ _ h)) (fun _ => (PF.ite (fun _ => (wr_X11_joins_65  _ _ _ _ _ _ h)) (fun _ => PF.none))))
theorem wr_X11_joins_45 {s : ST} {x1 : Int32} {x2 : Int32} {x3 : Int32} {σ : ST}   (h : KRB s σ) : PF st0 (KRB s) (f_X11_joins_45 x1 x2 x3 σ) := by
  unfold f_X11_joins_45
  exact (PF.ite (fun _ => (wr_X11_joins_51  h)) (fun _ => PF.none))
theorem wr_X11_joins {s : ST} {p0 : Int32} {p1 : Int32} {σ : ST}   (h : KRB s σ) : PF st0 (KRB s) (f_X11_joins p0 p1 σ) := by
  unfold f_X11_joins
  exact (PF.ite (fun _ => (PF.ite (fun _ => (wr_X11_joins_45  (KRB.i (by omega) h))) (fun _ => (PF.ite (fun _ => (PF.ite (fun _ => (PF.ite (fun _ => (wr_X11_joins_45  (KRB.i (by omega) h))) (fun _ => (wr_X11_joins_51  (KRB.i (by omega) h))))) (fun _ => PF.none))) (fun _ => PF.none))))) (fun _ => PF.none))
theorem wr_X11_laysNode {s : ST} {p0 : Int32} {p1 : Int32} {p2 : Int32} {p3 : Int32} {σ : ST}   (h : KRB s σ) : PF st1 (KRB s) (f_X11_laysNode p0 p1 p2 p3 σ) := by
  unfold f_X11_laysNode
  exact (PF.ite (fun _ => (PF.bnd (PF.ret0 (KRB.l (by omega) (KRB.i (by omega) (KRB.i (by omega) h)))) (fun z2 hz2 => (PF.bnd (PF.ret0 (KRB.i (by omega) (KRB.i (by omega) (KRB.l (by omega) hz2)))) (fun z3 hz3 => (PF.bnd (PF.ret0 (KRB.i (by omega) (KRB.i (by omega) (KRB.i (by omega) hz3)))) (fun z4 hz4 => (PF.bnd (PF.ret0 (KRB.i (by omega) (KRB.i (by omega) (KRB.i (by omega) hz4)))) (fun z5 hz5 => (PF.ite (fun _ => (PF.ret1 hz5)) (fun _ => (PF.bnd (wr_X11_joins  hz5) (fun q6 hq6 => (PF.ret1 hq6)))))))))))))) (fun _ => PF.none))
theorem wr_X11_reads_180 {s : ST} {r_X11_reads : Int32 → Int32 → Int32 → Int32 → Int32 → ST → Option (Int32 × ST)} {r_X11_readsItems : Int32 → Int32 → Int32 → Int32 → ST → Option (Int32 × ST)} {r_X11_readsRecord : Int32 → Int32 → Int32 → Int32 → ST → Option (Int32 × ST)} {x1 : Int32} {x3 : Int32} {x4 : Int32} {x5 : Int32} {x7 : Int32} {y0 : Int32} {σ : ST} (h_r_X11_reads : ∀ (x1 : Int32) (x2 : Int32) (x3 : Int32) (x4 : Int32) (x5 : Int32) (σ : ST), KRB s σ → PF st1 (KRB s) (r_X11_reads x1 x2 x3 x4 x5 σ)) (h_r_X11_readsItems : ∀ (x1 : Int32) (x2 : Int32) (x3 : Int32) (x4 : Int32) (σ : ST), KRB s σ → PF st1 (KRB s) (r_X11_readsItems x1 x2 x3 x4 σ)) (h_r_X11_readsRecord : ∀ (x1 : Int32) (x2 : Int32) (x3 : Int32) (x4 : Int32) (σ : ST), KRB s σ → PF st1 (KRB s) (r_X11_readsRecord x1 x2 x3 x4 σ))  (h : KRB s σ) : PF st1 (KRB s) (f_X11_reads_180 r_X11_reads r_X11_readsItems r_X11_readsRecord x1 x3 x4 x5 x7 y0 σ) := by
  unfold f_X11_reads_180
  exact (PF.ite (fun _ => (wr_X11_reads_227 h_r_X11_reads h_r_X11_readsItems h_r_X11_readsRecord h)) (fun _ => (PF.ite (fun _ => (PF.bnd (wr_X11_fails  h) (fun q4 hq4 => (PF.ite (fun _ => (PF.ret1 hq4)) (fun _ => PF.none))))) (fun _ => (PF.ite (fun _ => (PF.bnd (wr_X11_laysNode  h) (fun q2 hq2 => (wr_X11_reads_227 h_r_X11_reads h_r_X11_readsItems h_r_X11_readsRecord hq2)))) (fun _ => PF.none))))))
theorem wr_X11_reads_158 {s : ST} {r_X11_reads : Int32 → Int32 → Int32 → Int32 → Int32 → ST → Option (Int32 × ST)} {r_X11_readsItems : Int32 → Int32 → Int32 → Int32 → ST → Option (Int32 × ST)} {r_X11_readsRecord : Int32 → Int32 → Int32 → Int32 → ST → Option (Int32 × ST)} {x1 : Int32} {x2 : Int32} {x3 : Int32} {x4 : Int32} {x5 : Int32} {y0 : Int32} {σ : ST} (h_r_X11_reads : ∀ (x1 : Int32) (x2 : Int32) (x3 : Int32) (x4 : Int32) (x5 : Int32) (σ : ST), KRB s σ → PF st1 (KRB s) (r_X11_reads x1 x2 x3 x4 x5 σ)) (h_r_X11_readsItems : ∀ (x1 : Int32) (x2 : Int32) (x3 : Int32) (x4 : Int32) (σ : ST), KRB s σ → PF st1 (KRB s) (r_X11_readsItems x1 x2 x3 x4 σ)) (h_r_X11_readsRecord : ∀ (x1 : Int32) (x2 : Int32) (x3 : Int32) (x4 : Int32) (σ : ST), KRB s σ → PF st1 (KRB s) (r_X11_readsRecord x1 x2 x3 x4 σ))  (h : KRB s σ) : PF st1 (KRB s) (f_X11_reads_158 r_X11_reads r_X11_readsItems r_X11_readsRecord x1 x2 x3 x4 x5 y0 σ) := by
  unfold f_X11_reads_158
  exact (PF.ite (fun _ => (PF.ite (fun _ => (wr_X11_reads_180 h_r_X11_reads h_r_X11_readsItems h_r_X11_readsRecord h)) (fun _ => PF.none))) (fun _ => (wr_X11_reads_180 h_r_X11_reads h_r_X11_readsItems h_r_X11_readsRecord h)))
theorem wr_X11_reads_157 {s : ST} {r_X11_reads : Int32 → Int32 → Int32 → Int32 → Int32 → ST → Option (Int32 × ST)} {r_X11_readsItems : Int32 → Int32 → Int32 → Int32 → ST → Option (Int32 × ST)} {r_X11_readsRecord : Int32 → Int32 → Int32 → Int32 → ST → Option (Int32 × ST)} {x1 : Int32} {x2 : Int32} {x3 : Int32} {x4 : Int32} {x5 : Int32} {σ : ST} (h_r_X11_reads : ∀ (x1 : Int32) (x2 : Int32) (x3 : Int32) (x4 : Int32) (x5 : Int32) (σ : ST), KRB s σ → PF st1 (KRB s) (r_X11_reads x1 x2 x3 x4 x5 σ)) (h_r_X11_readsItems : ∀ (x1 : Int32) (x2 : Int32) (x3 : Int32) (x4 : Int32) (σ : ST), KRB s σ → PF st1 (KRB s) (r_X11_readsItems x1 x2 x3 x4 σ)) (h_r_X11_readsRecord : ∀ (x1 : Int32) (x2 : Int32) (x3 : Int32) (x4 : Int32) (σ : ST), KRB s σ → PF st1 (KRB s) (r_X11_readsRecord x1 x2 x3 x4 σ))  (h : KRB s σ) : PF st1 (KRB s) (f_X11_reads_157 r_X11_reads r_X11_readsItems r_X11_readsRecord x1 x2 x3 x4 x5 σ) := by
  unfold f_X11_reads_157
  exact (wr_X11_reads_158 h_r_X11_reads h_r_X11_readsItems h_r_X11_readsRecord h)
theorem wr_T_X11_chosen {s : ST} {p0 : Int32} {p1 : Int32} {σ : ST} (h : KRB s σ) : PF st1 (KRB s) (f_T_X11_chosen p0 p1 σ) := (wrR_X11_chosen FRB).1 _ _ _  h
theorem wr_X11_reads {s : ST} {r_X11_reads : Int32 → Int32 → Int32 → Int32 → Int32 → ST → Option (Int32 × ST)} {r_X11_readsItems : Int32 → Int32 → Int32 → Int32 → ST → Option (Int32 × ST)} {r_X11_readsRecord : Int32 → Int32 → Int32 → Int32 → ST → Option (Int32 × ST)} {p0 : Int32} {p1 : Int32} {p2 : Int32} {p3 : Int32} {p4 : Int32} {σ : ST} (h_r_X11_reads : ∀ (x1 : Int32) (x2 : Int32) (x3 : Int32) (x4 : Int32) (x5 : Int32) (σ : ST), KRB s σ → PF st1 (KRB s) (r_X11_reads x1 x2 x3 x4 x5 σ)) (h_r_X11_readsItems : ∀ (x1 : Int32) (x2 : Int32) (x3 : Int32) (x4 : Int32) (σ : ST), KRB s σ → PF st1 (KRB s) (r_X11_readsItems x1 x2 x3 x4 σ)) (h_r_X11_readsRecord : ∀ (x1 : Int32) (x2 : Int32) (x3 : Int32) (x4 : Int32) (σ : ST), KRB s σ → PF st1 (KRB s) (r_X11_readsRecord x1 x2 x3 x4 σ))  (h : KRB s σ) : PF st1 (KRB s) (f_X11_reads r_X11_reads r_X11_readsItems r_X11_readsRecord p0 p1 p2 p3 p4 σ) := by
  unfold f_X11_reads
  exact (PF.ite (fun _ => (PF.ite (fun _ => (PF.ite (fun _ => (PF.bnd (wr_X11_readsInt  h) (fun q5 hq5 => (PF.ite (fun _ => (PF.ret1 hq5)) (fun _ => (PF.ite (fun _ => (PF.ite (fun _ => (wr_X11_reads_96 h_r_X11_reads h_r_X11_readsItems h_r_X11_readsRecord hq5)) (fun _ => (PF.bnd (wr_T_X11_match hq5) (fun q8 hq8 => (PF.ite (fun _ => (PF.bnd (wr_X11_fails  hq8) (fun q10 hq10 => (PF.ite (fun _ => (PF.ret1 hq10)) (fun _ => PF.none))))) (fun _ => (wr_X11_reads_96 h_r_X11_reads h_r_X11_readsItems h_r_X11_readsRecord hq8)))))))) (fun _ => PF.none))))))) (fun _ => (PF.ite (fun _ => (wr_X11_reads_157 h_r_X11_reads h_r_X11_readsItems h_r_X11_readsRecord h)) (fun _ => (PF.ite (fun _ => (PF.ite (fun _ => (PF.bnd (wr_T_X11_chosen h) (fun q3 hq3 => (wr_X11_reads_158 h_r_X11_reads h_r_X11_readsItems h_r_X11_readsRecord hq3)))) (fun _ => (wr_X11_reads_157 h_r_X11_reads h_r_X11_readsItems h_r_X11_readsRecord h)))) (fun _ => PF.none))))))) (fun _ => PF.none))) (fun _ => (PF.bnd (wr_X11_fails  h) (fun q12 hq12 => (PF.ite (fun _ => (PF.ret1 hq12)) (fun _ => PF.none))))))
theorem wr_X11_readsItems_64 {s : ST} {r_X11_reads : Int32 → Int32 → Int32 → Int32 → Int32 → ST → Option (Int32 × ST)} {r_X11_readsItems : Int32 → Int32 → Int32 → Int32 → ST → Option (Int32 × ST)} {r_X11_readsRecord : Int32 → Int32 → Int32 → Int32 → ST → Option (Int32 × ST)} {k27 : Int32 → Int32 → Int32 → Int32 → Int32 → Int32 → ST → Option (Int32 × ST)} {x1 : Int32} {x2 : Int32} {x3 : Int32} {x4 : Int32} {x5 : Int32} {x6 : Int32} {y0 : Int32} {y1 : Int32} {σ : ST} (h_r_X11_reads : ∀ (x1 : Int32) (x2 : Int32) (x3 : Int32) (x4 : Int32) (x5 : Int32) (σ : ST), KRB s σ → PF st1 (KRB s) (r_X11_reads x1 x2 x3 x4 x5 σ)) (h_r_X11_readsItems : ∀ (x1 : Int32) (x2 : Int32) (x3 : Int32) (x4 : Int32) (σ : ST), KRB s σ → PF st1 (KRB s) (r_X11_readsItems x1 x2 x3 x4 σ)) (h_r_X11_readsRecord : ∀ (x1 : Int32) (x2 : Int32) (x3 : Int32) (x4 : Int32) (σ : ST), KRB s σ → PF st1 (KRB s) (r_X11_readsRecord x1 x2 x3 x4 σ)) (h_k27 : ∀ (x1 : Int32) (x2 : Int32) (x3 : Int32) (x4 : Int32) (x5 : Int32) (x6 : Int32) (σ : ST), KRB s σ → PF st1 (KRB s) (k27 x1 x2 x3 x4 x5 x6 σ))  (h : KRB s σ) : PF st1 (KRB s) (f_X11_readsItems_64 r_X11_reads r_X11_readsItems r_X11_readsRecord k27 x1 x2 x3 x4 x5 x6 y0 y1 σ) := by
  unfold f_X11_readsItems_64
  exact (PF.bnd (h_r_X11_reads _ _ _ _ _ _ h) (fun q1 hq1 => (PF.ite (fun _ => (PF.ret1 hq1)) (fun _ => (h_k27 _ _ _ _ _ _ _ (KRB.i (by omega) hq1))))))
theorem wr_X11_readsItems_27 {s : ST} {r_X11_reads : Int32 → Int32 → Int32 → Int32 → Int32 → ST → Option (Int32 × ST)} {r_X11_readsItems : Int32 → Int32 → Int32 → Int32 → ST → Option (Int32 × ST)} {r_X11_readsRecord : Int32 → Int32 → Int32 → Int32 → ST → Option (Int32 × ST)} (h_r_X11_reads : ∀ (x1 : Int32) (x2 : Int32) (x3 : Int32) (x4 : Int32) (x5 : Int32) (σ : ST), KRB s σ → PF st1 (KRB s) (r_X11_reads x1 x2 x3 x4 x5 σ)) (h_r_X11_readsItems : ∀ (x1 : Int32) (x2 : Int32) (x3 : Int32) (x4 : Int32) (σ : ST), KRB s σ → PF st1 (KRB s) (r_X11_readsItems x1 x2 x3 x4 σ)) (h_r_X11_readsRecord : ∀ (x1 : Int32) (x2 : Int32) (x3 : Int32) (x4 : Int32) (σ : ST), KRB s σ → PF st1 (KRB s) (r_X11_readsRecord x1 x2 x3 x4 σ))  : ∀ (n : Nat) (x1 : Int32) (x2 : Int32) (x3 : Int32) (x4 : Int32) (x5 : Int32) (x6 : Int32) (σ : ST), KRB s σ → PF st1 (KRB s) (f_X11_readsItems_27 r_X11_reads r_X11_readsItems r_X11_readsRecord n x1 x2 x3 x4 x5 x6 σ) := by
  intro n
  induction n with
  | zero => intro x1 x2 x3 x4 x5 x6 σ h; rw [f_X11_readsItems_27]; exact PF.none
  | succ n ih =>
    intro x1 x2 x3 x4 x5 x6 σ h
    rw [f_X11_readsItems_27]
    exact (PF.ite (fun _ => (PF.ret1 h)) (fun _ => (PF.bnd (wr_X11_enters  h) (fun q1 hq1 => (PF.ite (fun _ => (PF.ite (fun _ => (PF.ite (fun _ => (wr_X11_readsItems_64 h_r_X11_reads h_r_X11_readsItems h_r_X11_readsRecord ih hq1)) (fun _ => PF.none))) (fun _ => (wr_X11_readsItems_64 h_r_X11_reads h_r_X11_readsItems h_r_X11_readsRecord ih hq1)))) (fun _ => PF.none))))))
theorem wr_X11_readsItems {s : ST} {r_X11_reads : Int32 → Int32 → Int32 → Int32 → Int32 → ST → Option (Int32 × ST)} {r_X11_readsItems : Int32 → Int32 → Int32 → Int32 → ST → Option (Int32 × ST)} {r_X11_readsRecord : Int32 → Int32 → Int32 → Int32 → ST → Option (Int32 × ST)} {p0 : Int32} {p1 : Int32} {p2 : Int32} {p3 : Int32} {σ : ST} (h_r_X11_reads : ∀ (x1 : Int32) (x2 : Int32) (x3 : Int32) (x4 : Int32) (x5 : Int32) (σ : ST), KRB s σ → PF st1 (KRB s) (r_X11_reads x1 x2 x3 x4 x5 σ)) (h_r_X11_readsItems : ∀ (x1 : Int32) (x2 : Int32) (x3 : Int32) (x4 : Int32) (σ : ST), KRB s σ → PF st1 (KRB s) (r_X11_readsItems x1 x2 x3 x4 σ)) (h_r_X11_readsRecord : ∀ (x1 : Int32) (x2 : Int32) (x3 : Int32) (x4 : Int32) (σ : ST), KRB s σ → PF st1 (KRB s) (r_X11_readsRecord x1 x2 x3 x4 σ))  (h : KRB s σ) : PF st1 (KRB s) (f_X11_readsItems r_X11_reads r_X11_readsItems r_X11_readsRecord p0 p1 p2 p3 σ) := by
  unfold f_X11_readsItems
  exact (PF.bnd (wr_X11_readsInt  h) (fun q1 hq1 => (PF.ite (fun _ => (PF.ret1 hq1)) (fun _ => (wr_X11_readsItems_27 h_r_X11_reads h_r_X11_readsItems h_r_X11_readsRecord _ _ _ _ _ _ _ _ hq1)))))
theorem wr_X11_fieldOf_3 {s : ST}    : ∀ (n : Nat) (x1 : Int32) (x2 : Int64) (x3 : Int32) (σ : ST), KRB s σ → PF st1 (KRB s) (f_X11_fieldOf_3  n x1 x2 x3 σ) := by
  intro n
  induction n with
  | zero => intro x1 x2 x3 σ h; rw [f_X11_fieldOf_3]; exact PF.none
  | succ n ih =>
    intro x1 x2 x3 σ h
    rw [f_X11_fieldOf_3]
    exact (PF.ite (fun _ => (PF.ite (fun _ => (PF.ret1 h)) (fun _ => (PF.ite (fun _ => (PF.ite (fun _ => (PF.ret1 h)) (fun _ => (ih _ _ _ _ h)))) (fun _ => PF.none))))) (fun _ => PF.none))
theorem wr_X11_fieldOf {s : ST} {p0 : Int32} {p1 : Int64} {σ : ST}   (h : KRB s σ) : PF st1 (KRB s) (f_X11_fieldOf p0 p1 σ) := by
  unfold f_X11_fieldOf
  exact (wr_X11_fieldOf_3  _ _ _ _ _ h)
theorem wr_X11_fieldFor {s : ST} {p0 : Int32} {p1 : Int32} {σ : ST}   (h : KRB s σ) : PF st1 (KRB s) (f_X11_fieldFor p0 p1 σ) := by
  unfold f_X11_fieldFor
  exact (PF.ite (fun _ => (PF.bnd (wr_X11_fieldOf  h) (fun q2 hq2 => (PF.ite (fun _ => (PF.ret1 hq2)) (fun _ => (PF.ite (fun _ => (PF.ret1 hq2)) (fun _ => (PF.bnd (wr_X11_fieldOf  hq2) (fun q4 hq4 => (PF.ret1 hq4)))))))))) (fun _ => PF.none))
theorem wr_X11_readsRecord_286 {s : ST} {r_X11_reads : Int32 → Int32 → Int32 → Int32 → Int32 → ST → Option (Int32 × ST)} {r_X11_readsItems : Int32 → Int32 → Int32 → Int32 → ST → Option (Int32 × ST)} {r_X11_readsRecord : Int32 → Int32 → Int32 → Int32 → ST → Option (Int32 × ST)} {k217 : Int32 → Int32 → Int32 → Int32 → Int32 → ST → Option (Int32 × ST)} {x1 : Int32} {x2 : Int32} {x4 : Int32} {x6 : Int32} {x7 : Int32} {σ : ST} (h_r_X11_reads : ∀ (x1 : Int32) (x2 : Int32) (x3 : Int32) (x4 : Int32) (x5 : Int32) (σ : ST), KRB s σ → PF st1 (KRB s) (r_X11_reads x1 x2 x3 x4 x5 σ)) (h_r_X11_readsItems : ∀ (x1 : Int32) (x2 : Int32) (x3 : Int32) (x4 : Int32) (σ : ST), KRB s σ → PF st1 (KRB s) (r_X11_readsItems x1 x2 x3 x4 σ)) (h_r_X11_readsRecord : ∀ (x1 : Int32) (x2 : Int32) (x3 : Int32) (x4 : Int32) (σ : ST), KRB s σ → PF st1 (KRB s) (r_X11_readsRecord x1 x2 x3 x4 σ)) (h_k217 : ∀ (x1 : Int32) (x2 : Int32) (x3 : Int32) (x4 : Int32) (x5 : Int32) (σ : ST), KRB s σ → PF st1 (KRB s) (k217 x1 x2 x3 x4 x5 σ))  (h : KRB s σ) : PF st1 (KRB s) (f_X11_readsRecord_286 r_X11_reads r_X11_readsItems r_X11_readsRecord k217 x1 x2 x4 x6 x7 σ) := by
  unfold f_X11_readsRecord_286
  exact (h_k217 _ _ _ _ _ _ h)
theorem wr_X11_firstOf {s : ST} {p0 : Int32} {σ : ST}   (h : KRB s σ) : PF st1 (KRB s) (f_X11_firstOf p0 σ) := by
  unfold f_X11_firstOf
  exact (PF.ite (fun _ => (PF.ite (fun _ => (PF.ite (fun _ => (PF.ret1 h)) (fun _ => PF.none))) (fun _ => (PF.ret1 h)))) (fun _ => PF.none))
theorem wr_X11_fills_103 {s : ST} {x6 : Int32} {y0 : Int32} {y1 : Int32} {σ : ST}   (h : KRB s σ) : PF st0 (KRB s) (f_X11_fills_103 x6 y0 y1 σ) := by
  unfold f_X11_fills_103
  exact (PF.ite (fun _ => (PF.ite (fun _ => (PF.ret0 (KRB.i (by omega) (KRB.i (by omega) h)))) (fun _ => PF.none))) (fun _ => PF.none))
theorem wr_X11_fills_45 {s : ST} {x1 : Int32} {x5 : Int32} {y0 : Int32} {y1 : Int32} {y2 : Int32} {y3 : Int32} {σ : ST}   (h : KRB s σ) : PF st0 (KRB s) (f_X11_fills_45 x1 x5 y0 y1 y2 y3 σ) := by
  unfold f_X11_fills_45
  exact (PF.bnd (wr_X11_laysNode  h) (fun q1 hq1 => (PF.ite (fun _ => (PF.ite (fun _ => (PF.bnd (PF.ret0 (KRB.l (by omega) (KRB.l (by omega) hq1))) (fun z5 hz5 => (PF.ite (fun _ => (PF.ite (fun _ => (wr_X11_fills_103  hz5)) (fun _ => (wr_X11_fills_103  hz5)))) (fun _ => PF.none))))) (fun _ => PF.none))) (fun _ => PF.none))))
theorem wr_X11_fills {s : ST} {p0 : Int32} {p1 : Int32} {p2 : Int32} {σ : ST}   (h : KRB s σ) : PF st0 (KRB s) (f_X11_fills p0 p1 p2 σ) := by
  unfold f_X11_fills
  exact (PF.ite (fun _ => (PF.bnd (wr_X11_firstOf  h) (fun q2 hq2 => (PF.ite (fun _ => (PF.ite (fun _ => (wr_X11_fills_45  hq2)) (fun _ => (wr_X11_fills_45  hq2)))) (fun _ => PF.none))))) (fun _ => PF.none))
theorem wr_X11_readsRecord_217 {s : ST} {r_X11_reads : Int32 → Int32 → Int32 → Int32 → Int32 → ST → Option (Int32 × ST)} {r_X11_readsItems : Int32 → Int32 → Int32 → Int32 → ST → Option (Int32 × ST)} {r_X11_readsRecord : Int32 → Int32 → Int32 → Int32 → ST → Option (Int32 × ST)} (h_r_X11_reads : ∀ (x1 : Int32) (x2 : Int32) (x3 : Int32) (x4 : Int32) (x5 : Int32) (σ : ST), KRB s σ → PF st1 (KRB s) (r_X11_reads x1 x2 x3 x4 x5 σ)) (h_r_X11_readsItems : ∀ (x1 : Int32) (x2 : Int32) (x3 : Int32) (x4 : Int32) (σ : ST), KRB s σ → PF st1 (KRB s) (r_X11_readsItems x1 x2 x3 x4 σ)) (h_r_X11_readsRecord : ∀ (x1 : Int32) (x2 : Int32) (x3 : Int32) (x4 : Int32) (σ : ST), KRB s σ → PF st1 (KRB s) (r_X11_readsRecord x1 x2 x3 x4 σ))  : ∀ (n : Nat) (x1 : Int32) (x2 : Int32) (x3 : Int32) (x4 : Int32) (x5 : Int32) (σ : ST), KRB s σ → PF st1 (KRB s) (f_X11_readsRecord_217 r_X11_reads r_X11_readsItems r_X11_readsRecord n x1 x2 x3 x4 x5 σ) := by
  intro n
  induction n with
  | zero => intro x1 x2 x3 x4 x5 σ h; rw [f_X11_readsRecord_217]; exact PF.none
  | succ n ih =>
    intro x1 x2 x3 x4 x5 σ h
    rw [f_X11_readsRecord_217]
    exact (PF.ite (fun _ => (PF.ret1 h)) (fun _ => (PF.ite (fun _ => (PF.ite (fun _ => (PF.ret1 h)) (fun _ => (PF.ite (fun _ => (PF.bnd (wr_X11_fieldFor  h) (fun q3 hq3 => (PF.ite (fun _ => (wr_X11_readsRecord_286 h_r_X11_reads h_r_X11_readsItems h_r_X11_readsRecord ih hq3)) (fun _ => (PF.ite (fun _ => (PF.bnd (wr_X11_fails  hq3) (fun q7 hq7 => (PF.ite (fun _ => (PF.ret1 hq7)) (fun _ => PF.none))))) (fun _ => (PF.bnd (wr_X11_fills  hq3) (fun q5 hq5 => (wr_X11_readsRecord_286 h_r_X11_reads h_r_X11_readsItems h_r_X11_readsRecord ih hq5)))))))))) (fun _ => PF.none))))) (fun _ => PF.none))))
theorem wr_X11_readsRecord_198 {s : ST} {r_X11_reads : Int32 → Int32 → Int32 → Int32 → Int32 → ST → Option (Int32 × ST)} {r_X11_readsItems : Int32 → Int32 → Int32 → Int32 → ST → Option (Int32 × ST)} {r_X11_readsRecord : Int32 → Int32 → Int32 → Int32 → ST → Option (Int32 × ST)} {k43 : Int32 → Int32 → Int32 → Int32 → Int32 → Int32 → Int32 → ST → Option (Int32 × ST)} {x1 : Int32} {x2 : Int32} {x3 : Int32} {x4 : Int32} {x5 : Int32} {x6 : Int32} {x7 : Int32} {σ : ST} (h_r_X11_reads : ∀ (x1 : Int32) (x2 : Int32) (x3 : Int32) (x4 : Int32) (x5 : Int32) (σ : ST), KRB s σ → PF st1 (KRB s) (r_X11_reads x1 x2 x3 x4 x5 σ)) (h_r_X11_readsItems : ∀ (x1 : Int32) (x2 : Int32) (x3 : Int32) (x4 : Int32) (σ : ST), KRB s σ → PF st1 (KRB s) (r_X11_readsItems x1 x2 x3 x4 σ)) (h_r_X11_readsRecord : ∀ (x1 : Int32) (x2 : Int32) (x3 : Int32) (x4 : Int32) (σ : ST), KRB s σ → PF st1 (KRB s) (r_X11_readsRecord x1 x2 x3 x4 σ)) (h_k43 : ∀ (x1 : Int32) (x2 : Int32) (x3 : Int32) (x4 : Int32) (x5 : Int32) (x6 : Int32) (x7 : Int32) (σ : ST), KRB s σ → PF st1 (KRB s) (k43 x1 x2 x3 x4 x5 x6 x7 σ))  (h : KRB s σ) : PF st1 (KRB s) (f_X11_readsRecord_198 r_X11_reads r_X11_readsItems r_X11_readsRecord k43 x1 x2 x3 x4 x5 x6 x7 σ) := by
  unfold f_X11_readsRecord_198
  exact (h_k43 _ _ _ _ _ _ _ _ (KRB.i (by omega) h))
theorem wr_X11_readsRecord_171 {s : ST} {r_X11_reads : Int32 → Int32 → Int32 → Int32 → Int32 → ST → Option (Int32 × ST)} {r_X11_readsItems : Int32 → Int32 → Int32 → Int32 → ST → Option (Int32 × ST)} {r_X11_readsRecord : Int32 → Int32 → Int32 → Int32 → ST → Option (Int32 × ST)} {k43 : Int32 → Int32 → Int32 → Int32 → Int32 → Int32 → Int32 → ST → Option (Int32 × ST)} {x1 : Int32} {x2 : Int32} {x3 : Int32} {x4 : Int32} {x5 : Int32} {x6 : Int32} {x7 : Int32} {x8 : Int32} {x10 : Int32} {σ : ST} (h_r_X11_reads : ∀ (x1 : Int32) (x2 : Int32) (x3 : Int32) (x4 : Int32) (x5 : Int32) (σ : ST), KRB s σ → PF st1 (KRB s) (r_X11_reads x1 x2 x3 x4 x5 σ)) (h_r_X11_readsItems : ∀ (x1 : Int32) (x2 : Int32) (x3 : Int32) (x4 : Int32) (σ : ST), KRB s σ → PF st1 (KRB s) (r_X11_readsItems x1 x2 x3 x4 σ)) (h_r_X11_readsRecord : ∀ (x1 : Int32) (x2 : Int32) (x3 : Int32) (x4 : Int32) (σ : ST), KRB s σ → PF st1 (KRB s) (r_X11_readsRecord x1 x2 x3 x4 σ)) (h_k43 : ∀ (x1 : Int32) (x2 : Int32) (x3 : Int32) (x4 : Int32) (x5 : Int32) (x6 : Int32) (x7 : Int32) (σ : ST), KRB s σ → PF st1 (KRB s) (k43 x1 x2 x3 x4 x5 x6 x7 σ))  (h : KRB s σ) : PF st1 (KRB s) (f_X11_readsRecord_171 r_X11_reads r_X11_readsItems r_X11_readsRecord k43 x1 x2 x3 x4 x5 x6 x7 x8 x10 σ) := by
  unfold f_X11_readsRecord_171
  exact (PF.ite (fun _ => (PF.ite (fun _ => (PF.bnd (h_r_X11_reads _ _ _ _ _ _ h) (fun q2 hq2 => (PF.ite (fun _ => (PF.ret1 hq2)) (fun _ => (wr_X11_readsRecord_198 h_r_X11_reads h_r_X11_readsItems h_r_X11_readsRecord h_k43 hq2)))))) (fun _ => PF.none))) (fun _ => (wr_X11_readsRecord_198 h_r_X11_reads h_r_X11_readsItems h_r_X11_readsRecord h_k43 h)))
theorem wr_X11_readsRecord_165 {s : ST} {r_X11_reads : Int32 → Int32 → Int32 → Int32 → Int32 → ST → Option (Int32 × ST)} {r_X11_readsItems : Int32 → Int32 → Int32 → Int32 → ST → Option (Int32 × ST)} {r_X11_readsRecord : Int32 → Int32 → Int32 → Int32 → ST → Option (Int32 × ST)} {k43 : Int32 → Int32 → Int32 → Int32 → Int32 → Int32 → Int32 → ST → Option (Int32 × ST)} {k83 : Int32 → Int32 → Int32 → Int32 → Int32 → Int32 → Int32 → Int32 → Int32 → Int32 → Int32 → ST → Option (Int32 × ST)} {x1 : Int32} {x2 : Int32} {x3 : Int32} {x4 : Int32} {x5 : Int32} {x6 : Int32} {x7 : Int32} {x8 : Int32} {x9 : Int32} {x10 : Int32} {x11 : Int32} {σ : ST} (h_r_X11_reads : ∀ (x1 : Int32) (x2 : Int32) (x3 : Int32) (x4 : Int32) (x5 : Int32) (σ : ST), KRB s σ → PF st1 (KRB s) (r_X11_reads x1 x2 x3 x4 x5 σ)) (h_r_X11_readsItems : ∀ (x1 : Int32) (x2 : Int32) (x3 : Int32) (x4 : Int32) (σ : ST), KRB s σ → PF st1 (KRB s) (r_X11_readsItems x1 x2 x3 x4 σ)) (h_r_X11_readsRecord : ∀ (x1 : Int32) (x2 : Int32) (x3 : Int32) (x4 : Int32) (σ : ST), KRB s σ → PF st1 (KRB s) (r_X11_readsRecord x1 x2 x3 x4 σ)) (h_k43 : ∀ (x1 : Int32) (x2 : Int32) (x3 : Int32) (x4 : Int32) (x5 : Int32) (x6 : Int32) (x7 : Int32) (σ : ST), KRB s σ → PF st1 (KRB s) (k43 x1 x2 x3 x4 x5 x6 x7 σ)) (h_k83 : ∀ (x1 : Int32) (x2 : Int32) (x3 : Int32) (x4 : Int32) (x5 : Int32) (x6 : Int32) (x7 : Int32) (x8 : Int32) (x9 : Int32) (x10 : Int32) (x11 : Int32) (σ : ST), KRB s σ → PF st1 (KRB s) (k83 x1 x2 x3 x4 x5 x6 x7 x8 x9 x10 x11 σ))  (h : KRB s σ) : PF st1 (KRB s) (f_X11_readsRecord_165 r_X11_reads r_X11_readsItems r_X11_readsRecord k43 k83 x1 x2 x3 x4 x5 x6 x7 x8 x9 x10 x11 σ) := by
  unfold f_X11_readsRecord_165
  exact (h_k83 _ _ _ _ _ _ _ _ _ _ _ _ h)
theorem wr_X11_readsRecord_83 {s : ST} {r_X11_reads : Int32 → Int32 → Int32 → Int32 → Int32 → ST → Option (Int32 × ST)} {r_X11_readsItems : Int32 → Int32 → Int32 → Int32 → ST → Option (Int32 × ST)} {r_X11_readsRecord : Int32 → Int32 → Int32 → Int32 → ST → Option (Int32 × ST)} {k43 : Int32 → Int32 → Int32 → Int32 → Int32 → Int32 → Int32 → ST → Option (Int32 × ST)} (h_r_X11_reads : ∀ (x1 : Int32) (x2 : Int32) (x3 : Int32) (x4 : Int32) (x5 : Int32) (σ : ST), KRB s σ → PF st1 (KRB s) (r_X11_reads x1 x2 x3 x4 x5 σ)) (h_r_X11_readsItems : ∀ (x1 : Int32) (x2 : Int32) (x3 : Int32) (x4 : Int32) (σ : ST), KRB s σ → PF st1 (KRB s) (r_X11_readsItems x1 x2 x3 x4 σ)) (h_r_X11_readsRecord : ∀ (x1 : Int32) (x2 : Int32) (x3 : Int32) (x4 : Int32) (σ : ST), KRB s σ → PF st1 (KRB s) (r_X11_readsRecord x1 x2 x3 x4 σ)) (h_k43 : ∀ (x1 : Int32) (x2 : Int32) (x3 : Int32) (x4 : Int32) (x5 : Int32) (x6 : Int32) (x7 : Int32) (σ : ST), KRB s σ → PF st1 (KRB s) (k43 x1 x2 x3 x4 x5 x6 x7 σ))  : ∀ (n : Nat) (x1 : Int32) (x2 : Int32) (x3 : Int32) (x4 : Int32) (x5 : Int32) (x6 : Int32) (x7 : Int32) (x8 : Int32) (x9 : Int32) (x10 : Int32) (x11 : Int32) (σ : ST), KRB s σ → PF st1 (KRB s) (f_X11_readsRecord_83 r_X11_reads r_X11_readsItems r_X11_readsRecord k43 n x1 x2 x3 x4 x5 x6 x7 x8 x9 x10 x11 σ) := by
  intro n
  induction n with
  | zero => intro x1 x2 x3 x4 x5 x6 x7 x8 x9 x10 x11 σ h; rw [f_X11_readsRecord_83]; exact PF.none
  | succ n ih =>
    intro x1 x2 x3 x4 x5 x6 x7 x8 x9 x10 x11 σ h
    rw [f_X11_readsRecord_83]
    exact (PF.ite (fun _ => (wr_X11_readsRecord_171 h_r_X11_reads h_r_X11_readsItems h_r_X11_readsRecord h_k43 h)) (fun _ => (PF.ite (fun _ => (PF.ite (fun _ => (wr_X11_readsRecord_171 h_r_X11_reads h_r_X11_readsItems h_r_X11_readsRecord h_k43 h)) (fun _ => (PF.ite (fun _ => (PF.bnd (wr_X11_fieldFor  h) (fun q3 hq3 => (PF.ite (fun _ => (PF.ite (fun _ => (PF.ite (fun _ => (PF.bnd (h_r_X11_reads _ _ _ _ _ _ (KRB.i (by omega) hq3)) (fun q7 hq7 => (PF.ite (fun _ => (PF.ret1 hq7)) (fun _ => (wr_X11_readsRecord_165 h_r_X11_reads h_r_X11_readsItems h_r_X11_readsRecord h_k43 ih hq7)))))) (fun _ => PF.none))) (fun _ => PF.none))) (fun _ => (wr_X11_readsRecord_165 h_r_X11_reads h_r_X11_readsItems h_r_X11_readsRecord h_k43 ih hq3)))))) (fun _ => PF.none))))) (fun _ => PF.none))))
theorem wr_X11_readsRecord_43 {s : ST} {r_X11_reads : Int32 → Int32 → Int32 → Int32 → Int32 → ST → Option (Int32 × ST)} {r_X11_readsItems : Int32 → Int32 → Int32 → Int32 → ST → Option (Int32 × ST)} {r_X11_readsRecord : Int32 → Int32 → Int32 → Int32 → ST → Option (Int32 × ST)} (h_r_X11_reads : ∀ (x1 : Int32) (x2 : Int32) (x3 : Int32) (x4 : Int32) (x5 : Int32) (σ : ST), KRB s σ → PF st1 (KRB s) (r_X11_reads x1 x2 x3 x4 x5 σ)) (h_r_X11_readsItems : ∀ (x1 : Int32) (x2 : Int32) (x3 : Int32) (x4 : Int32) (σ : ST), KRB s σ → PF st1 (KRB s) (r_X11_readsItems x1 x2 x3 x4 σ)) (h_r_X11_readsRecord : ∀ (x1 : Int32) (x2 : Int32) (x3 : Int32) (x4 : Int32) (σ : ST), KRB s σ → PF st1 (KRB s) (r_X11_readsRecord x1 x2 x3 x4 σ))  : ∀ (n : Nat) (x1 : Int32) (x2 : Int32) (x3 : Int32) (x4 : Int32) (x5 : Int32) (x6 : Int32) (x7 : Int32) (σ : ST), KRB s σ → PF st1 (KRB s) (f_X11_readsRecord_43 r_X11_reads r_X11_readsItems r_X11_readsRecord n x1 x2 x3 x4 x5 x6 x7 σ) := by
  intro n
  induction n with
  | zero => intro x1 x2 x3 x4 x5 x6 x7 σ h; rw [f_X11_readsRecord_43]; exact PF.none
  | succ n ih =>
    intro x1 x2 x3 x4 x5 x6 x7 σ h
    rw [f_X11_readsRecord_43]
    exact (PF.ite (fun _ => (PF.ite (fun _ => (wr_X11_readsRecord_217 h_r_X11_reads h_r_X11_readsItems h_r_X11_readsRecord _ _ _ _ _ _ _ h)) (fun _ => (PF.bnd (wr_X11_enters  h) (fun q2 hq2 => (wr_X11_readsRecord_83 h_r_X11_reads h_r_X11_readsItems h_r_X11_readsRecord ih _ _ _ _ _ _ _ _ _ _ _ _ _ hq2)))))) (fun _ => PF.none))
theorem wr_X11_readsRecord_38 {s : ST} {r_X11_reads : Int32 → Int32 → Int32 → Int32 → Int32 → ST → Option (Int32 × ST)} {r_X11_readsItems : Int32 → Int32 → Int32 → Int32 → ST → Option (Int32 × ST)} {r_X11_readsRecord : Int32 → Int32 → Int32 → Int32 → ST → Option (Int32 × ST)} {x1 : Int32} {x2 : Int32} {x3 : Int32} {x4 : Int32} {x5 : Int32} {y0 : Int32} {σ : ST} (h_r_X11_reads : ∀ (x1 : Int32) (x2 : Int32) (x3 : Int32) (x4 : Int32) (x5 : Int32) (σ : ST), KRB s σ → PF st1 (KRB s) (r_X11_reads x1 x2 x3 x4 x5 σ)) (h_r_X11_readsItems : ∀ (x1 : Int32) (x2 : Int32) (x3 : Int32) (x4 : Int32) (σ : ST), KRB s σ → PF st1 (KRB s) (r_X11_readsItems x1 x2 x3 x4 σ)) (h_r_X11_readsRecord : ∀ (x1 : Int32) (x2 : Int32) (x3 : Int32) (x4 : Int32) (σ : ST), KRB s σ → PF st1 (KRB s) (r_X11_readsRecord x1 x2 x3 x4 σ))  (h : KRB s σ) : PF st1 (KRB s) (f_X11_readsRecord_38 r_X11_reads r_X11_readsItems r_X11_readsRecord x1 x2 x3 x4 x5 y0 σ) := by
  unfold f_X11_readsRecord_38
  exact (wr_X11_readsRecord_43 h_r_X11_reads h_r_X11_readsItems h_r_X11_readsRecord _ _ _ _ _ _ _ _ _ h)
theorem wr_X11_readsRecord {s : ST} {r_X11_reads : Int32 → Int32 → Int32 → Int32 → Int32 → ST → Option (Int32 × ST)} {r_X11_readsItems : Int32 → Int32 → Int32 → Int32 → ST → Option (Int32 × ST)} {r_X11_readsRecord : Int32 → Int32 → Int32 → Int32 → ST → Option (Int32 × ST)} {p0 : Int32} {p1 : Int32} {p2 : Int32} {p3 : Int32} {σ : ST} (h_r_X11_reads : ∀ (x1 : Int32) (x2 : Int32) (x3 : Int32) (x4 : Int32) (x5 : Int32) (σ : ST), KRB s σ → PF st1 (KRB s) (r_X11_reads x1 x2 x3 x4 x5 σ)) (h_r_X11_readsItems : ∀ (x1 : Int32) (x2 : Int32) (x3 : Int32) (x4 : Int32) (σ : ST), KRB s σ → PF st1 (KRB s) (r_X11_readsItems x1 x2 x3 x4 σ)) (h_r_X11_readsRecord : ∀ (x1 : Int32) (x2 : Int32) (x3 : Int32) (x4 : Int32) (σ : ST), KRB s σ → PF st1 (KRB s) (r_X11_readsRecord x1 x2 x3 x4 σ))  (h : KRB s σ) : PF st1 (KRB s) (f_X11_readsRecord r_X11_reads r_X11_readsItems r_X11_readsRecord p0 p1 p2 p3 σ) := by
  unfold f_X11_readsRecord
  exact (PF.ite (fun _ => (PF.ite (fun _ => (PF.ite (fun _ => (wr_X11_readsRecord_38 h_r_X11_reads h_r_X11_readsItems h_r_X11_readsRecord h)) (fun _ => PF.none))) (fun _ => (wr_X11_readsRecord_38 h_r_X11_reads h_r_X11_readsItems h_r_X11_readsRecord h)))) (fun _ => PF.none))
theorem wrR_X11_reads {s : ST} : ∀ n : Nat, (∀ (p0 : Int32) (p1 : Int32) (p2 : Int32) (p3 : Int32) (p4 : Int32) (σ : ST), KRB s σ → PF st1 (KRB s) ((R_X11_reads n).1 p0 p1 p2 p3 p4 σ)) ∧ (∀ (p0 : Int32) (p1 : Int32) (p2 : Int32) (p3 : Int32) (σ : ST), KRB s σ → PF st1 (KRB s) ((R_X11_reads n).2.1 p0 p1 p2 p3 σ)) ∧ (∀ (p0 : Int32) (p1 : Int32) (p2 : Int32) (p3 : Int32) (σ : ST), KRB s σ → PF st1 (KRB s) ((R_X11_reads n).2.2 p0 p1 p2 p3 σ)) := by
  intro n
  induction n with
  | zero => exact ⟨fun _ _ _ _ _ _ _ => PF.none, fun _ _ _ _ _ _ => PF.none, fun _ _ _ _ _ _ => PF.none⟩
  | succ n ih => exact ⟨fun _ _ _ _ _ _ h => wr_X11_reads (ih.1) (ih.2.1) (ih.2.2)  h, fun _ _ _ _ _ h => wr_X11_readsItems (ih.1) (ih.2.1) (ih.2.2)  h, fun _ _ _ _ _ h => wr_X11_readsRecord (ih.1) (ih.2.1) (ih.2.2)  h⟩
theorem wr_T_X11_reads {s : ST} {p0 : Int32} {p1 : Int32} {p2 : Int32} {p3 : Int32} {p4 : Int32} {σ : ST} (h : KRB s σ) : PF st1 (KRB s) (f_T_X11_reads p0 p1 p2 p3 p4 σ) := (wrR_X11_reads FRB).1 _ _ _ _ _ _  h
