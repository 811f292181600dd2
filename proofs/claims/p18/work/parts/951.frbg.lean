/-- the reference's reading: all but its path, its place, what it tells and its nodes -/
def KRB (s σ : ST) : Prop := (∀ c, c ≠ 0 → c ≠ 20 → (c < 23 ∨ 30 < c) → c ≠ 36 → c ≠ 41 → σ.1 c = s.1 c) ∧ (∀ i, i ≠ 46 → i ≠ 57 → i ≠ 64 → i ≠ 66 → i ≠ 67 → i ≠ 68 → i ≠ 72 → σ.1 0 i = s.1 0 i) ∧ (∀ c, c ≠ 0 → c ≠ 21 → c ≠ 22 → σ.2.1 c = s.2.1 c)
theorem KRB.rf {s : ST} : KRB s s := ⟨fun _ _ _ _ _ _ => rfl, fun _ _ _ _ _ _ _ _ => rfl, fun _ _ _ _ => rfl⟩
theorem KRB.trans {s σ u : ST} (h : KRB s σ) (k : KRB σ u) : KRB s u := ⟨fun c a d e f g => (k.1 c a d e f g).trans (h.1 c a d e f g), fun i a b c d e f g => (k.2.1 i a b c d e f g).trans (h.2.1 i a b c d e f g), fun c a d e => (k.2.2 c a d e).trans (h.2.2 c a d e)⟩
theorem KRB.i {s σ : ST} {c i : Nat} {v : Int32} (hc : c = 20 ∨ 23 ≤ c ∧ c ≤ 30 ∨ c = 36 ∨ c = 41 ∨ c = 0 ∧ (i = 46 ∨ i = 57 ∨ i = 64 ∨ i = 66 ∨ i = 67 ∨ i = 68 ∨ i = 72)) (h : KRB s σ) : KRB s (stI σ c i v) := by
  refine ⟨fun d h1 h2 h3 h4 h5 => ?_, fun j a b d e f g k => ?_, h.2.2⟩
  · rw [stI_ne (by omega)]
    exact h.1 d h1 h2 h3 h4 h5
  · by_cases e0 : c = 0
    · subst e0
      rw [stI_at, upN (by omega)]
      exact h.2.1 j a b d e f g k
    · rw [stI_ne (fun h => e0 h.symm)]
      exact h.2.1 j a b d e f g k
theorem KRB.l {s σ : ST} {c i : Nat} {v : Int64} (hc : c = 0 ∨ c = 21 ∨ c = 22) (h : KRB s σ) : KRB s (stL σ c i v) := by
  refine ⟨h.1, h.2.1, fun d h1 h2 h3 => ?_⟩
  rw [stL_ne (by omega)]
  exact h.2.2 d h1 h2 h3
theorem KRB.d {s σ : ST} {c i : Nat} {v : UInt64} (h : KRB s σ) : KRB s (stD σ c i v) := h
theorem wr_X11_fails_36 {s : ST}    : ∀ (n : Nat) (x1 : Int32) (σ : ST), KRB s σ → PF st1 (KRB s) (f_X11_fails_36  n x1 σ) := by
  intro n
  induction n with
  | zero => intro x1 σ h; rw [f_X11_fails_36]; exact PF.none
  | succ n ih =>
    intro x1 σ h
    rw [f_X11_fails_36]
    exact (PF.ite (fun _ => (PF.ret1 h)) (fun _ => (PF.ite (fun _ => (ih _ _ (KRB.i (by omega) h))) (fun _ => PF.none))))
theorem wr_X11_fails_31 {s : ST} {y0 : Int32} {σ : ST}   (h : KRB s σ) : PF st1 (KRB s) (f_X11_fails_31 y0 σ) := by
  unfold f_X11_fails_31
  exact (wr_X11_fails_36  _ _ _ (KRB.i (by omega) h))
theorem wr_X11_fails_23 {s : ST}  {σ : ST}   (h : KRB s σ) : PF st1 (KRB s) (f_X11_fails_23 σ) := by
  unfold f_X11_fails_23
  exact (wr_X11_fails_31  h)
theorem wr_X11_fails {s : ST} {p0 : Int32} {p1 : Int32} {σ : ST}   (h : KRB s σ) : PF st1 (KRB s) (f_X11_fails p0 p1 σ) := by
  unfold f_X11_fails
  exact (PF.ite (fun _ => (wr_X11_fails_23  (KRB.i (by omega) (KRB.i (by omega) h)))) (fun _ => (PF.ite (fun _ => (wr_X11_fails_23  (KRB.i (by omega) (KRB.i (by omega) h)))) (fun _ => (wr_X11_fails_31  (KRB.i (by omega) (KRB.i (by omega) h)))))))
theorem wr_X11_nextByte {s : ST}  {σ : ST}   (h : KRB s σ) : PF st1 (KRB s) (f_X11_nextByte σ) := by
  unfold f_X11_nextByte
  exact (PF.ite (fun _ => (PF.bnd (wr_X11_fails  h) (fun q2 hq2 => (PF.ret1 hq2)))) (fun _ => (PF.ite (fun _ => (PF.ret1 (KRB.i (by omega) h))) (fun _ => PF.none))))
theorem wr_X11_readsNumber_46 {s : ST} {k5 : Int32 → Int64 → Int32 → ST → Option (Int32 × ST)} {x1 : Int32} {x2 : Int64} {x4 : Int32} {x5 : Int32} {σ : ST} (h_k5 : ∀ (x1 : Int32) (x2 : Int64) (x3 : Int32) (σ : ST), KRB s σ → PF st1 (KRB s) (k5 x1 x2 x3 σ))  (h : KRB s σ) : PF st1 (KRB s) (f_X11_readsNumber_46 k5 x1 x2 x4 x5 σ) := by
  unfold f_X11_readsNumber_46
  exact (PF.ite (fun _ => (h_k5 _ _ _ _ h)) (fun _ => (PF.bnd (PF.ret0 (KRB.l (by omega) h)) (fun z1 hz1 => (PF.ret1 hz1)))))
theorem wr_X11_readsNumber_5 {s : ST}    : ∀ (n : Nat) (x1 : Int32) (x2 : Int64) (x3 : Int32) (σ : ST), KRB s σ → PF st1 (KRB s) (f_X11_readsNumber_5  n x1 x2 x3 σ) := by
  intro n
  induction n with
  | zero => intro x1 x2 x3 σ h; rw [f_X11_readsNumber_5]; exact PF.none
  | succ n ih =>
    intro x1 x2 x3 σ h
    rw [f_X11_readsNumber_5]
    exact (PF.ite (fun _ => (PF.ret1 h)) (fun _ => (PF.bnd (wr_X11_nextByte  h) (fun q1 hq1 => (PF.ite (fun _ => (PF.ite (fun _ => (PF.ite (fun _ => (wr_X11_readsNumber_46 ih hq1)) (fun _ => (PF.bnd (wr_X11_fails  hq1) (fun q3 hq3 => (PF.ite (fun _ => (PF.ret1 hq3)) (fun _ => PF.none))))))) (fun _ => (wr_X11_readsNumber_46 ih hq1)))) (fun _ => (PF.ret1 hq1)))))))
theorem wr_X11_readsNumber {s : ST} {p0 : Int32} {σ : ST}   (h : KRB s σ) : PF st1 (KRB s) (f_X11_readsNumber p0 σ) := by
  unfold f_X11_readsNumber
  exact (wr_X11_readsNumber_5  _ _ _ _ _ h)
theorem wr_X11_within {s : ST} {p0 : Int64} {p1 : Int64} {p2 : Int64} {σ : ST}   (h : KRB s σ) : PF st1 (KRB s) (f_X11_within p0 p1 p2 σ) := by
  unfold f_X11_within
  exact (PF.ite (fun _ => (PF.ret1 h)) (fun _ => (PF.ite (fun _ => (PF.ret1 h)) (fun _ => (PF.ret1 h)))))
theorem wr_X11_readsInt_31 {s : ST}  {σ : ST}   (h : KRB s σ) : PF st1 (KRB s) (f_X11_readsInt_31 σ) := by
  unfold f_X11_readsInt_31
  exact (PF.ret1 h)
theorem wr_X11_readsInt {s : ST} {p0 : Int32} {p1 : Int64} {p2 : Int64} {σ : ST}   (h : KRB s σ) : PF st1 (KRB s) (f_X11_readsInt p0 p1 p2 σ) := by
  unfold f_X11_readsInt
  exact (PF.bnd (wr_X11_readsNumber  h) (fun q1 hq1 => (PF.ite (fun _ => (PF.ret1 hq1)) (fun _ => (PF.bnd (wr_X11_within  hq1) (fun q3 hq3 => (PF.ite (fun _ => (PF.bnd (wr_X11_fails  hq3) (fun q5 hq5 => (PF.ite (fun _ => (PF.ret1 hq5)) (fun _ => (wr_X11_readsInt_31  hq5)))))) (fun _ => (wr_X11_readsInt_31  hq3)))))))))
theorem wr_X11_enters {s : ST} {p0 : Int32} {σ : ST}   (h : KRB s σ) : PF st0 (KRB s) (f_X11_enters p0 σ) := by
  unfold f_X11_enters
  exact (PF.ite (fun _ => (PF.bnd (PF.ret0 (KRB.i (by omega) (KRB.i (by omega) h))) (fun z2 hz2 => (PF.ret0 hz2)))) (fun _ => PF.none))
theorem wr_X11_reads_96 {s : ST} {r_X11_reads : Int32 → Int32 → Int32 → Int32 → Int32 → ST → Option (Int32 × ST)} {r_X11_readsItems : Int32 → Int32 → Int32 → Int32 → ST → Option (Int32 × ST)} {r_X11_readsRecord : Int32 → Int32 → Int32 → Int32 → ST → Option (Int32 × ST)} {x2 : Int32} {x3 : Int32} {x4 : Int32} {x5 : Int32} {x7 : Int32} {x8 : Int32} {σ : ST} (h_r_X11_reads : ∀ (x1 : Int32) (x2 : Int32) (x3 : Int32) (x4 : Int32) (x5 : Int32) (σ : ST), KRB s σ → PF st1 (KRB s) (r_X11_reads x1 x2 x3 x4 x5 σ)) (h_r_X11_readsItems : ∀ (x1 : Int32) (x2 : Int32) (x3 : Int32) (x4 : Int32) (σ : ST), KRB s σ → PF st1 (KRB s) (r_X11_readsItems x1 x2 x3 x4 σ)) (h_r_X11_readsRecord : ∀ (x1 : Int32) (x2 : Int32) (x3 : Int32) (x4 : Int32) (σ : ST), KRB s σ → PF st1 (KRB s) (r_X11_readsRecord x1 x2 x3 x4 σ))  (h : KRB s σ) : PF st1 (KRB s) (f_X11_reads_96 r_X11_reads r_X11_readsItems r_X11_readsRecord x2 x3 x4 x5 x7 x8 σ) := by
  unfold f_X11_reads_96
  exact (PF.bnd (wr_X11_enters  h) (fun q1 hq1 => (PF.bnd (h_r_X11_reads _ _ _ _ _ _ hq1) (fun q3 hq3 => (PF.ite (fun _ => (PF.ret1 (KRB.i (by omega) hq3))) (fun _ => PF.none))))))
theorem wr_X11_chosen_69 {s : ST} {r_X11_chosen : Int32 → Int32 → ST → Option (Int32 × ST)} {r_X11_match : Int32 → Int32 → ST → Option (Int32 × ST)} {k5 : Int32 → Int32 → Int32 → Int32 → ST → Option (Int32 × ST)} {x1 : Int32} {x2 : Int32} {x3 : Int32} {x4 : Int32} {σ : ST} (h_r_X11_chosen : ∀ (x1 : Int32) (x2 : Int32) (σ : ST), KRB s σ → PF st1 (KRB s) (r_X11_chosen x1 x2 σ)) (h_r_X11_match : ∀ (x1 : Int32) (x2 : Int32) (σ : ST), KRB s σ → PF st1 (KRB s) (r_X11_match x1 x2 σ)) (h_k5 : ∀ (x1 : Int32) (x2 : Int32) (x3 : Int32) (x4 : Int32) (σ : ST), KRB s σ → PF st1 (KRB s) (k5 x1 x2 x3 x4 σ))  (h : KRB s σ) : PF st1 (KRB s) (f_X11_chosen_69 r_X11_chosen r_X11_match k5 x1 x2 x3 x4 σ) := by
  unfold f_X11_chosen_69
  exact (h_k5 _ _ _ _ _ h)
theorem wr_X11_chosen_68 {s : ST} {r_X11_chosen : Int32 → Int32 → ST → Option (Int32 × ST)} {r_X11_match : Int32 → Int32 → ST → Option (Int32 × ST)} {k5 : Int32 → Int32 → Int32 → Int32 → ST → Option (Int32 × ST)} {x1 : Int32} {x2 : Int32} {x4 : Int32} {y0 : Int32} {σ : ST} (h_r_X11_chosen : ∀ (x1 : Int32) (x2 : Int32) (σ : ST), KRB s σ → PF st1 (KRB s) (r_X11_chosen x1 x2 σ)) (h_r_X11_match : ∀ (x1 : Int32) (x2 : Int32) (σ : ST), KRB s σ → PF st1 (KRB s) (r_X11_match x1 x2 σ)) (h_k5 : ∀ (x1 : Int32) (x2 : Int32) (x3 : Int32) (x4 : Int32) (σ : ST), KRB s σ → PF st1 (KRB s) (k5 x1 x2 x3 x4 σ))  (h : KRB s σ) : PF st1 (KRB s) (f_X11_chosen_68 r_X11_chosen r_X11_match k5 x1 x2 x4 y0 σ) := by
  unfold f_X11_chosen_68
  exact (wr_X11_chosen_69 h_r_X11_chosen h_r_X11_match h_k5 h)
theorem wr_X11_chosen_5 {s : ST} {r_X11_chosen : Int32 → Int32 → ST → Option (Int32 × ST)} {r_X11_match : Int32 → Int32 → ST → Option (Int32 × ST)} (h_r_X11_chosen : ∀ (x1 : Int32) (x2 : Int32) (σ : ST), KRB s σ → PF st1 (KRB s) (r_X11_chosen x1 x2 σ)) (h_r_X11_match : ∀ (x1 : Int32) (x2 : Int32) (σ : ST), KRB s σ → PF st1 (KRB s) (r_X11_match x1 x2 σ))  : ∀ (n : Nat) (x1 : Int32) (x2 : Int32) (x3 : Int32) (x4 : Int32) (σ : ST), KRB s σ → PF st1 (KRB s) (f_X11_chosen_5 r_X11_chosen r_X11_match n x1 x2 x3 x4 σ) := by
  intro n
  induction n with
  | zero => intro x1 x2 x3 x4 σ h; rw [f_X11_chosen_5]; exact PF.none
  | succ n ih =>
    intro x1 x2 x3 x4 σ h
    rw [f_X11_chosen_5]
    exact (PF.ite (fun _ => (PF.ite (fun _ => (PF.ret1 h)) (fun _ => (PF.ite (fun _ => (PF.bnd (h_r_X11_match _ _ _ h) (fun q3 hq3 => (PF.ite (fun _ => (wr_X11_chosen_69 h_r_X11_chosen h_r_X11_match ih hq3)) (fun _ => (PF.ite (fun _ => (PF.ite (fun _ => (PF.ite (fun _ => (PF.ret1 hq3)) (fun _ => (PF.ite (fun _ => (wr_X11_chosen_68 h_r_X11_chosen h_r_X11_match ih hq3)) (fun _ => (wr_X11_chosen_68 h_r_X11_chosen h_r_X11_match ih hq3)))))) (fun _ => PF.none))) (fun _ => PF.none))))))) (fun _ => PF.none))))) (fun _ => PF.none))
theorem wr_X11_chosen {s : ST} {r_X11_chosen : Int32 → Int32 → ST → Option (Int32 × ST)} {r_X11_match : Int32 → Int32 → ST → Option (Int32 × ST)} {p0 : Int32} {p1 : Int32} {σ : ST} (h_r_X11_chosen : ∀ (x1 : Int32) (x2 : Int32) (σ : ST), KRB s σ → PF st1 (KRB s) (r_X11_chosen x1 x2 σ)) (h_r_X11_match : ∀ (x1 : Int32) (x2 : Int32) (σ : ST), KRB s σ → PF st1 (KRB s) (r_X11_match x1 x2 σ))  (h : KRB s σ) : PF st1 (KRB s) (f_X11_chosen r_X11_chosen r_X11_match p0 p1 σ) := by
  unfold f_X11_chosen
  exact (wr_X11_chosen_5 h_r_X11_chosen h_r_X11_match _ _ _ _ _ _ h)
theorem wr_X11_match_55 {s : ST} {r_X11_chosen : Int32 → Int32 → ST → Option (Int32 × ST)} {r_X11_match : Int32 → Int32 → ST → Option (Int32 × ST)} {k16 : Int32 → Int32 → Int32 → Int32 → ST → Option (Int32 × ST)} {x1 : Int32} {x2 : Int32} {x4 : Int32} {y0 : Int32} {σ : ST} (h_r_X11_chosen : ∀ (x1 : Int32) (x2 : Int32) (σ : ST), KRB s σ → PF st1 (KRB s) (r_X11_chosen x1 x2 σ)) (h_r_X11_match : ∀ (x1 : Int32) (x2 : Int32) (σ : ST), KRB s σ → PF st1 (KRB s) (r_X11_match x1 x2 σ)) (h_k16 : ∀ (x1 : Int32) (x2 : Int32) (x3 : Int32) (x4 : Int32) (σ : ST), KRB s σ → PF st1 (KRB s) (k16 x1 x2 x3 x4 σ))  (h : KRB s σ) : PF st1 (KRB s) (f_X11_match_55 r_X11_chosen r_X11_match k16 x1 x2 x4 y0 σ) := by
  unfold f_X11_match_55
  exact (h_k16 _ _ _ _ _ h)
theorem wr_X11_match_50 {s : ST} {r_X11_chosen : Int32 → Int32 → ST → Option (Int32 × ST)} {r_X11_match : Int32 → Int32 → ST → Option (Int32 × ST)} {k16 : Int32 → Int32 → Int32 → Int32 → ST → Option (Int32 × ST)} {x1 : Int32} {x2 : Int32} {x4 : Int32} {σ : ST} (h_r_X11_chosen : ∀ (x1 : Int32) (x2 : Int32) (σ : ST), KRB s σ → PF st1 (KRB s) (r_X11_chosen x1 x2 σ)) (h_r_X11_match : ∀ (x1 : Int32) (x2 : Int32) (σ : ST), KRB s σ → PF st1 (KRB s) (r_X11_match x1 x2 σ)) (h_k16 : ∀ (x1 : Int32) (x2 : Int32) (x3 : Int32) (x4 : Int32) (σ : ST), KRB s σ → PF st1 (KRB s) (k16 x1 x2 x3 x4 σ))  (h : KRB s σ) : PF st1 (KRB s) (f_X11_match_50 r_X11_chosen r_X11_match k16 x1 x2 x4 σ) := by
  unfold f_X11_match_50
  exact (wr_X11_match_55 h_r_X11_chosen h_r_X11_match h_k16 h)
theorem wr_X11_match_16 {s : ST} {r_X11_chosen : Int32 → Int32 → ST → Option (Int32 × ST)} {r_X11_match : Int32 → Int32 → ST → Option (Int32 × ST)} (h_r_X11_chosen : ∀ (x1 : Int32) (x2 : Int32) (σ : ST), KRB s σ → PF st1 (KRB s) (r_X11_chosen x1 x2 σ)) (h_r_X11_match : ∀ (x1 : Int32) (x2 : Int32) (σ : ST), KRB s σ → PF st1 (KRB s) (r_X11_match x1 x2 σ))  : ∀ (n : Nat) (x1 : Int32) (x2 : Int32) (x3 : Int32) (x4 : Int32) (σ : ST), KRB s σ → PF st1 (KRB s) (f_X11_match_16 r_X11_chosen r_X11_match n x1 x2 x3 x4 σ) := by
  intro n
  induction n with
  | zero => intro x1 x2 x3 x4 σ h; rw [f_X11_match_16]; exact PF.none
  | succ n ih =>
    intro x1 x2 x3 x4 σ h
    rw [f_X11_match_16]
    exact (PF.ite (fun _ => (PF.ite (fun _ => (PF.ite (fun _ => (PF.ret1 h)) (fun _ => PF.none))) (fun _ => (PF.ite (fun _ => (PF.ite (fun _ => (PF.bnd (h_r_X11_match _ _ _ h) (fun q3 hq3 => (PF.ite (fun _ => (wr_X11_match_55 h_r_X11_chosen h_r_X11_match ih hq3)) (fun _ => (wr_X11_match_50 h_r_X11_chosen h_r_X11_match ih hq3)))))) (fun _ => PF.none))) (fun _ => (wr_X11_match_50 h_r_X11_chosen h_r_X11_match ih h)))))) (fun _ => PF.none))
theorem wr_X11_match_204 {s : ST} {r_X11_chosen : Int32 → Int32 → ST → Option (Int32 × ST)} {r_X11_match : Int32 → Int32 → ST → Option (Int32 × ST)} {σ : ST} (h_r_X11_chosen : ∀ (x1 : Int32) (x2 : Int32) (σ : ST), KRB s σ → PF st1 (KRB s) (r_X11_chosen x1 x2 σ)) (h_r_X11_match : ∀ (x1 : Int32) (x2 : Int32) (σ : ST), KRB s σ → PF st1 (KRB s) (r_X11_match x1 x2 σ))  (h : KRB s σ) : PF st1 (KRB s) (f_X11_match_204 r_X11_chosen r_X11_match σ) := by
  unfold f_X11_match_204
  exact (PF.ret1 h)
theorem wr_X11_match_193 {s : ST} {r_X11_chosen : Int32 → Int32 → ST → Option (Int32 × ST)} {r_X11_match : Int32 → Int32 → ST → Option (Int32 × ST)} {x3 : Int32} {x4 : Int32} {σ : ST} (h_r_X11_chosen : ∀ (x1 : Int32) (x2 : Int32) (σ : ST), KRB s σ → PF st1 (KRB s) (r_X11_chosen x1 x2 σ)) (h_r_X11_match : ∀ (x1 : Int32) (x2 : Int32) (σ : ST), KRB s σ → PF st1 (KRB s) (r_X11_match x1 x2 σ))  (h : KRB s σ) : PF st1 (KRB s) (f_X11_match_193 r_X11_chosen r_X11_match x3 x4 σ) := by
  unfold f_X11_match_193
  exact (PF.ite (fun _ => (PF.ite (fun _ => (wr_X11_match_204 h_r_X11_chosen h_r_X11_match h)) (fun _ => (PF.ret1 h)))) (fun _ => (PF.ret1 h)))
theorem wr_X11_match_170 {s : ST} {r_X11_chosen : Int32 → Int32 → ST → Option (Int32 × ST)} {r_X11_match : Int32 → Int32 → ST → Option (Int32 × ST)} {x3 : Int32} {x4 : Int32} {σ : ST} (h_r_X11_chosen : ∀ (x1 : Int32) (x2 : Int32) (σ : ST), KRB s σ → PF st1 (KRB s) (r_X11_chosen x1 x2 σ)) (h_r_X11_match : ∀ (x1 : Int32) (x2 : Int32) (σ : ST), KRB s σ → PF st1 (KRB s) (r_X11_match x1 x2 σ))  (h : KRB s σ) : PF st1 (KRB s) (f_X11_match_170 r_X11_chosen r_X11_match x3 x4 σ) := by
  unfold f_X11_match_170
  exact (PF.ite (fun _ => (wr_X11_match_204 h_r_X11_chosen h_r_X11_match h)) (fun _ => (PF.ite (fun _ => (PF.ite (fun _ => (wr_X11_match_204 h_r_X11_chosen h_r_X11_match h)) (fun _ => (PF.ite (fun _ => (wr_X11_match_204 h_r_X11_chosen h_r_X11_match h)) (fun _ => (wr_X11_match_193 h_r_X11_chosen h_r_X11_match h)))))) (fun _ => (wr_X11_match_193 h_r_X11_chosen h_r_X11_match h)))))
theorem wr_X11_match_135 {s : ST} {r_X11_chosen : Int32 → Int32 → ST → Option (Int32 × ST)} {r_X11_match : Int32 → Int32 → ST → Option (Int32 × ST)} {x1 : Int32} {x2 : Int32} {x3 : Int32} {x4 : Int32} {σ : ST} (h_r_X11_chosen : ∀ (x1 : Int32) (x2 : Int32) (σ : ST), KRB s σ → PF st1 (KRB s) (r_X11_chosen x1 x2 σ)) (h_r_X11_match : ∀ (x1 : Int32) (x2 : Int32) (σ : ST), KRB s σ → PF st1 (KRB s) (r_X11_match x1 x2 σ))  (h : KRB s σ) : PF st1 (KRB s) (f_X11_match_135 r_X11_chosen r_X11_match x1 x2 x3 x4 σ) := by
  unfold f_X11_match_135
  exact (PF.ite (fun _ => (PF.ite (fun _ => (PF.ite (fun _ => (PF.ite (fun _ => (PF.ite (fun _ => (PF.ite (fun _ => (PF.ret1 h)) (fun _ => PF.none))) (fun _ => PF.none))) (fun _ => PF.none))) (fun _ => PF.none))) (fun _ => (wr_X11_match_170 h_r_X11_chosen h_r_X11_match h)))) (fun _ => (wr_X11_match_170 h_r_X11_chosen h_r_X11_match h)))
theorem wr_X11_match {s : ST} {r_X11_chosen : Int32 → Int32 → ST → Option (Int32 × ST)} {r_X11_match : Int32 → Int32 → ST → Option (Int32 × ST)} {p0 : Int32} {p1 : Int32} {σ : ST} (h_r_X11_chosen : ∀ (x1 : Int32) (x2 : Int32) (σ : ST), KRB s σ → PF st1 (KRB s) (r_X11_chosen x1 x2 σ)) (h_r_X11_match : ∀ (x1 : Int32) (x2 : Int32) (σ : ST), KRB s σ → PF st1 (KRB s) (r_X11_match x1 x2 σ))  (h : KRB s σ) : PF st1 (KRB s) (f_X11_match r_X11_chosen r_X11_match p0 p1 σ) := by
  unfold f_X11_match
  exact (PF.ite (fun _ => (PF.ite (fun _ => (wr_X11_match_16 h_r_X11_chosen h_r_X11_match _ _ _ _ _ _ h)) (fun _ => (PF.ite (fun _ => (PF.ite (fun _ => (PF.bnd (h_r_X11_chosen _ _ _ h) (fun q5 hq5 => (PF.ite (fun _ => (PF.ret1 hq5)) (fun _ => (PF.ret1 hq5)))))) (fun _ => (PF.ite (fun _ => (PF.ite (fun _ => (PF.bnd (h_r_X11_match _ _ _ h) (fun q3 hq3 => (PF.ite (fun _ => (PF.ret1 hq3)) (fun _ => PF.none))))) (fun _ => (wr_X11_match_135 h_r_X11_chosen h_r_X11_match h)))) (fun _ => (wr_X11_match_135 h_r_X11_chosen h_r_X11_match h)))))) (fun _ => PF.none))))) (fun _ => PF.none))
theorem wrR_X11_chosen {s : ST} : ∀ n : Nat, (∀ (p0 : Int32) (p1 : Int32) (σ : ST), KRB s σ → PF st1 (KRB s) ((R_X11_chosen n).1 p0 p1 σ)) ∧ (∀ (p0 : Int32) (p1 : Int32) (σ : ST), KRB s σ → PF st1 (KRB s) ((R_X11_chosen n).2 p0 p1 σ)) := by
  intro n
  induction n with
  | zero => exact ⟨fun _ _ _ _ => PF.none, fun _ _ _ _ => PF.none⟩
  | succ n ih => exact ⟨fun _ _ _ h => wr_X11_chosen (ih.1) (ih.2)  h, fun _ _ _ h => wr_X11_match (ih.1) (ih.2)  h⟩
theorem wr_T_X11_match {s : ST} {p0 : Int32} {p1 : Int32} {σ : ST} (h : KRB s σ) : PF st1 (KRB s) (f_T_X11_match p0 p1 σ) := (wrR_X11_chosen FRB).2 _ _ _  h
theorem wr_X11_readsFlag_30 {s : ST}  {σ : ST}   (h : KRB s σ) : PF st1 (KRB s) (f_X11_readsFlag_30 σ) := by
  unfold f_X11_readsFlag_30
  exact (PF.ret1 h)
theorem wr_X11_readsFlag {s : ST} {p0 : Int32} {σ : ST}   (h : KRB s σ) : PF st1 (KRB s) (f_X11_readsFlag p0 σ) := by
  unfold f_X11_readsFlag
  exact (PF.bnd (wr_X11_nextByte  h) (fun q1 hq1 => (PF.ite (fun _ => (PF.ret1 (KRB.l (by omega) hq1))) (fun _ => (PF.ite (fun _ => (wr_X11_readsFlag_30  (KRB.l (by omega) hq1))) (fun _ => (PF.bnd (wr_X11_fails  (KRB.l (by omega) hq1)) (fun q3 hq3 => (PF.ite (fun _ => (PF.ret1 hq3)) (fun _ => (wr_X11_readsFlag_30  hq3)))))))))))
theorem wr_X11_readsLeaf_229 {s : ST} {x5 : Int32} {y0 : Int32} {y1 : Int32} {σ : ST}   (h : KRB s σ) : PF st1 (KRB s) (f_X11_readsLeaf_229 x5 y0 y1 σ) := by
  unfold f_X11_readsLeaf_229
  exact (PF.ite (fun _ => (PF.ite (fun _ => (PF.ret1 (KRB.i (by omega) h))) (fun _ => PF.none))) (fun _ => PF.none))
theorem wr_X11_readsLeaf_209 {s : ST} {x3 : Int32} {x5 : Int32} {x6 : Int32} {y0 : Int64} {y1 : Int32} {σ : ST}   (h : KRB s σ) : PF st1 (KRB s) (f_X11_readsLeaf_209 x3 x5 x6 y0 y1 σ) := by
  unfold f_X11_readsLeaf_209
  exact (PF.ite (fun _ => (PF.ite (fun _ => (wr_X11_readsLeaf_229  (KRB.l (by omega) h))) (fun _ => (wr_X11_readsLeaf_229  (KRB.l (by omega) h))))) (fun _ => PF.none))
theorem wr_X11_readsLeaf_189 {s : ST} {x3 : Int32} {x5 : Int32} {x6 : Int32} {y0 : Int64} {y1 : Int32} {σ : ST}   (h : KRB s σ) : PF st1 (KRB s) (f_X11_readsLeaf_189 x3 x5 x6 y0 y1 σ) := by
  unfold f_X11_readsLeaf_189
  exact (PF.ite (fun _ => (PF.ite (fun _ => (wr_X11_readsLeaf_209  (KRB.l (by omega) h))) (fun _ => (wr_X11_readsLeaf_209  (KRB.l (by omega) h))))) (fun _ => PF.none))
theorem wr_Jxe99ae_isNaN_b9ae7 {s : ST} {p0 : UInt64} {σ : ST}   (h : KRB s σ) : PF st1 (KRB s) (f_Jxe99ae_isNaN_b9ae7 p0 σ) := by
  unfold f_Jxe99ae_isNaN_b9ae7
  exact (PF.ite (fun _ => (PF.ret1 h)) (fun _ => (PF.ret1 h)))
theorem wr_Jxe99ae_doubleToLongBits_ccdee {s : ST} {p0 : UInt64} {σ : ST}   (h : KRB s σ) : PF st1 (KRB s) (f_Jxe99ae_doubleToLongBits_ccdee p0 σ) := by
  unfold f_Jxe99ae_doubleToLongBits_ccdee
  exact (PF.bnd (wr_Jxe99ae_isNaN_b9ae7  h) (fun q1 hq1 => (PF.ite (fun _ => (PF.ret1 hq1)) (fun _ => (PF.ret1 hq1)))))
theorem wr_X11_readsLeaf_155 {s : ST} {x3 : Int32} {x5 : Int32} {x6 : Int32} {x7 : Int32} {y0 : UInt64} {σ : ST}   (h : KRB s σ) : PF st1 (KRB s) (f_X11_readsLeaf_155 x3 x5 x6 x7 y0 σ) := by
  unfold f_X11_readsLeaf_155
  exact (PF.ite (fun _ => (wr_X11_readsLeaf_189  h)) (fun _ => (PF.ite (fun _ => (wr_X11_readsLeaf_189  h)) (fun _ => (PF.bnd (wr_Jxe99ae_doubleToLongBits_ccdee  h) (fun q1 hq1 => (wr_X11_readsLeaf_189  hq1)))))))
theorem wr_X11_readsLeaf_132 {s : ST} {x3 : Int32} {x5 : Int32} {x6 : Int32} {y0 : Int32} {σ : ST}   (h : KRB s σ) : PF st1 (KRB s) (f_X11_readsLeaf_132 x3 x5 x6 y0 σ) := by
  unfold f_X11_readsLeaf_132
  exact (PF.ite (fun _ => (wr_X11_readsLeaf_155  h)) (fun _ => (wr_X11_readsLeaf_155  h)))
theorem wr_X11_readsLeaf_108 {s : ST} {x2 : Int32} {x3 : Int32} {x5 : Int32} {x6 : Int32} {σ : ST}   (h : KRB s σ) : PF st1 (KRB s) (f_X11_readsLeaf_108 x2 x3 x5 x6 σ) := by
  unfold f_X11_readsLeaf_108
  exact (PF.ite (fun _ => (PF.ite (fun _ => (PF.ret1 h)) (fun _ => PF.none))) (fun _ => (PF.ite (fun _ => (PF.ite (fun _ => (PF.ret1 h)) (fun _ => PF.none))) (fun _ => (PF.ite (fun _ => (PF.ite (fun _ => (wr_X11_readsLeaf_132  h)) (fun _ => (wr_X11_readsLeaf_132  h)))) (fun _ => PF.none))))))
theorem wr_X11_readsReal_7 {s : ST}    : ∀ (n : Nat) (x1 : Int32) (σ : ST), KRB s σ → PF st1 (KRB s) (f_X11_readsReal_7  n x1 σ) := by
  intro n
  induction n with
  | zero => intro x1 σ h; rw [f_X11_readsReal_7]; exact PF.none
  | succ n ih =>
    intro x1 σ h
    rw [f_X11_readsReal_7]
    exact (PF.ite (fun _ => (PF.ret1 h)) (fun _ => (PF.bnd (wr_X11_nextByte  h) (fun q1 hq1 => (PF.ite (fun _ => (ih _ _ (KRB.l (by omega) hq1))) (fun _ => (PF.ret1 hq1)))))))
theorem wr_X11_readsReal {s : ST}  {σ : ST}   (h : KRB s σ) : PF st1 (KRB s) (f_X11_readsReal σ) := by
  unfold f_X11_readsReal
  exact (wr_X11_readsReal_7  _ _ _ (KRB.l (by omega) h))
theorem wr_X11_isLetter {s : ST} {p0 : Int32} {σ : ST}   (h : KRB s σ) : PF st1 (KRB s) (f_X11_isLetter p0 σ) := by
  unfold f_X11_isLetter
  exact (PF.bnd (wr_X11_within  h) (fun q1 hq1 => (PF.ite (fun _ => (PF.ret1 hq1)) (fun _ => PF.none))))
theorem wr_X11_readsText_32 {s : ST}    : ∀ (n : Nat) (x1 : Int32) (x2 : Int32) (x3 : Int32) (σ : ST), KRB s σ → PF st1 (KRB s) (f_X11_readsText_32  n x1 x2 x3 σ) := by
  intro n
  induction n with
  | zero => intro x1 x2 x3 σ h; rw [f_X11_readsText_32]; exact PF.none
  | succ n ih =>
    intro x1 x2 x3 σ h
    rw [f_X11_readsText_32]
    exact (PF.ite (fun _ => (PF.ret1 h)) (fun _ => (PF.bnd (wr_X11_nextByte  h) (fun q1 hq1 => (PF.ite (fun _ => (PF.bnd (wr_X11_isLetter  hq1) (fun q3 hq3 => (PF.ite (fun _ => (PF.bnd (wr_X11_fails  hq3) (fun q5 hq5 => (PF.ite (fun _ => (PF.ret1 hq5)) (fun _ => PF.none))))) (fun _ => (ih _ _ _ _ (KRB.l (by omega) hq3))))))) (fun _ => (PF.ret1 hq1)))))))
theorem wr_X11_readsText {s : ST} {p0 : Int32} {σ : ST}   (h : KRB s σ) : PF st1 (KRB s) (f_X11_readsText p0 σ) := by
  unfold f_X11_readsText
  exact (PF.bnd (wr_X11_readsInt  h) (fun q1 hq1 => (PF.ite (fun _ => (PF.ret1 hq1)) (fun _ => (wr_X11_readsText_32  _ _ _ _ _ (KRB.i (by omega) (KRB.l (by omega) hq1)))))))
theorem wr_X11_readsLeaf {s : ST} {p0 : Int32} {p1 : Int32} {p2 : Int32} {σ : ST}   (h : KRB s σ) : PF st1 (KRB s) (f_X11_readsLeaf p0 p1 p2 σ) := by
  unfold f_X11_readsLeaf
  exact (PF.ite (fun _ => (PF.ite (fun _ => (PF.bnd (wr_X11_readsFlag  (KRB.l (by omega) h)) (fun q10 hq10 => (wr_X11_readsLeaf_108  hq10)))) (fun _ => (PF.ite (fun _ => (PF.bnd (wr_X11_readsInt  (KRB.l (by omega) h)) (fun q8 hq8 => (wr_X11_readsLeaf_108  hq8)))) (fun _ => (PF.ite (fun _ => (PF.bnd (wr_X11_readsNumber  (KRB.l (by omega) h)) (fun q6 hq6 => (wr_X11_readsLeaf_108  hq6)))) (fun _ => (PF.ite (fun _ => (PF.bnd (wr_X11_readsReal  (KRB.l (by omega) h)) (fun q4 hq4 => (wr_X11_readsLeaf_108  hq4)))) (fun _ => (PF.ite (fun _ => (PF.bnd (wr_X11_readsText  (KRB.l (by omega) h)) (fun q2 hq2 => (wr_X11_readsLeaf_108  hq2)))) (fun _ => (wr_X11_readsLeaf_108  (KRB.l (by omega) h))))))))))))) (fun _ => PF.none))
theorem wr_X11_reads_227 {s : ST} {r_X11_reads : Int32 → Int32 → Int32 → Int32 → Int32 → ST → Option (Int32 × ST)} {r_X11_readsItems : Int32 → Int32 → Int32 → Int32 → ST → Option (Int32 × ST)} {r_X11_readsRecord : Int32 → Int32 → Int32 → Int32 → ST → Option (Int32 × ST)} {x1 : Int32} {x3 : Int32} {x8 : Int32} {x9 : Int32} {σ : ST} (h_r_X11_reads : ∀ (x1 : Int32) (x2 : Int32) (x3 : Int32) (x4 : Int32) (x5 : Int32) (σ : ST), KRB s σ → PF st1 (KRB s) (r_X11_reads x1 x2 x3 x4 x5 σ)) (h_r_X11_readsItems : ∀ (x1 : Int32) (x2 : Int32) (x3 : Int32) (x4 : Int32) (σ : ST), KRB s σ → PF st1 (KRB s) (r_X11_readsItems x1 x2 x3 x4 σ)) (h_r_X11_readsRecord : ∀ (x1 : Int32) (x2 : Int32) (x3 : Int32) (x4 : Int32) (σ : ST), KRB s σ → PF st1 (KRB s) (r_X11_readsRecord x1 x2 x3 x4 σ))  (h : KRB s σ) : PF st1 (KRB s) (f_X11_reads_227 r_X11_reads r_X11_readsItems r_X11_readsRecord x1 x3 x8 x9 σ) := by
  unfold f_X11_reads_227
  exact (PF.ite (fun _ => (PF.ite (fun _ => (PF.bnd (h_r_X11_readsItems _ _ _ _ _ h) (fun q4 hq4 => (PF.ite (fun _ => (PF.ret1 hq4)) (fun _ => PF.none))))) (fun _ => (PF.ite (fun _ => (PF.bnd (h_r_X11_readsRecord _ _ _ _ _ h) (fun q6 hq6 => (PF.ite (fun _ => (PF.ret1 hq6)) (fun _ => PF.none))))) (fun _ => (PF.bnd (wr_X11_readsLeaf  h) (fun q8 hq8 => (PF.ite (fun _ => (PF.ret1 hq8)) (fun _ => PF.none))))))))) (fun _ => PF.none))
theorem wr_X11_joins_147 {s : ST} {x1 : Int32} {x2 : Int32} {σ : ST}   (h : KRB s σ) : PF st0 (KRB s) (f_X11_joins_147 x1 x2 σ) := by
  unfold f_X11_joins_147
  exact (PF.ite (fun _ => (PF.ite (fun _ => (PF.ret0 h)) (fun _ => (PF.ite (fun _ => (PF.ret0 (KRB.i (by omega) h))) (fun _ => PF.none))))) (fun _ => PF.none))
theorem wr_X11_joins_125 {s : ST} {x1 : Int32} {x2 : Int32} {x3 : Int32} {y0 : Int32} {y1 : Int32} {σ : ST}   (h : KRB s σ) : PF st0 (KRB s) (f_X11_joins_125 x1 x2 x3 y0 y1 σ) := by
  unfold f_X11_joins_125
  exact (PF.ite (fun _ => (PF.ite (fun _ => (PF.ite (fun _ => (wr_X11_joins_147  (KRB.i (by omega) (KRB.i (by omega) h)))) (fun _ => PF.none))) (fun _ => (PF.ite (fun _ => (wr_X11_joins_147  (KRB.i (by omega) (KRB.i (by omega) h)))) (fun _ => PF.none))))) (fun _ => PF.none))
theorem wr_X11_joins_101 {s : ST} {x1 : Int32} {x2 : Int32} {x3 : Int32} {σ : ST}   (h : KRB s σ) : PF st0 (KRB s) (f_X11_joins_101 x1 x2 x3 σ) := by
  unfold f_X11_joins_101
  exact (PF.ite (fun _ => (PF.ite (fun _ => (wr_X11_joins_125  h)) (fun _ => PF.none))) (fun _ => (PF.ite (fun _ => (wr_X11_joins_125  h)) (fun _ => PF.none))))
theorem wr_X11_joins_65 {s : ST}    : ∀ (n : Nat) (x1 : Int32) (x2 : Int32) (x3 : Int32) (x4 : Int32) (σ : ST), KRB s σ → PF st0 (KRB s) (f_X11_joins_65  n x1 x2 x3 x4 σ) := by
  intro n
  induction n with
  | zero => intro x1 x2 x3 x4 σ h; rw [f_X11_joins_65]; exact PF.none
  | succ n ih =>
    intro x1 x2 x3 x4 σ h
    rw [f_X11_joins_65]
    exact (PF.ite (fun _ => (wr_X11_joins_101  h)) (fun _ => (PF.ite (fun _ => (PF.ite (fun _ => (PF.ite (fun _ => (wr_X11_joins_101  h)) (fun _ => (ih _ _ _ _ _ h)))) (fun _ => PF.none))) (fun _ => PF.none))))
theorem wr_X11_joins_51 {s : ST} {x1 : Int32} {x2 : Int32} {x3 : Int32} {y0 : Int32} {σ : ST}   (h : KRB s σ) : PF st0 (KRB s) (f_X11_joins_51 x1 x2 x3 y0 σ) := by
  unfold f_X11_joins_51
  exact (PF.ite (fun _ => (wr_X11_joins_65  _ _ _ _ _ _ h)) (fun _ => (PF.ite (fun _ => (wr_X11_joins_65  _ _ _ _ _ _ h)) (fun _ => PF.none))))
theorem wr_X11_joins_45 {s : ST} {x1 : Int32} {x2 : Int32} {x3 : Int32} {σ : ST}   (h : KRB s σ) : PF st0 (KRB s) (f_X11_joins_45 x1 x2 x3 σ) := by
  unfold f_X11_joins_45
  exact (PF.ite (fun _ => (wr_X11_joins_51  h)) (fun _ => PF.none))
theorem wr_X11_joins {s : ST} {p0 : Int32} {p1 : Int32} {σ : ST}   (h : KRB s σ) : PF st0 (KRB s) (f_X11_joins p0 p1 σ) := by
  unfold f_X11_joins
  exact (PF.ite (fun _ => (PF.ite (fun _ => (wr_X11_joins_45  (KRB.i (by omega) h))) (fun _ => (PF.ite (fun _ => (PF.ite (fun _ => (PF.ite (fun _ => (wr_X11_joins_45  (KRB.i (by omega) h))) (fun _ => (wr_X11_joins_51  (KRB.i (by omega) h))))) (fun _ => PF.none))) (fun _ => PF.none))))) (fun _ => PF.none))
theorem wr_X11_laysNode {s : ST} {p0 : Int32} {p1 : Int32} {p2 : Int32} {p3 : Int32} {σ : ST}   (h : KRB s σ) : PF st1 (KRB s) (f_X11_laysNode p0 p1 p2 p3 σ) := by
  unfold f_X11_laysNode
  exact (PF.ite (fun _ => (PF.bnd (PF.ret0 (KRB.l (by omega) (KRB.i (by omega) (KRB.i (by omega) h)))) (fun z2 hz2 => (PF.bnd (PF.ret0 (KRB.i (by omega) (KRB.i (by omega) (KRB.l (by omega) hz2)))) (fun z3 hz3 => (PF.bnd (PF.ret0 (KRB.i (by omega) (KRB.i (by omega) (KRB.i (by omega) hz3)))) (fun z4 hz4 => (PF.bnd (PF.ret0 (KRB.i (by omega) (KRB.i (by omega) (KRB.i (by omega) hz4)))) (fun z5 hz5 => (PF.ite (fun _ => (PF.ret1 hz5)) (fun _ => (PF.bnd (wr_X11_joins  hz5) (fun q6 hq6 => (PF.ret1 hq6)))))))))))))) (fun _ => PF.none))
theorem wr_X11_reads_180 {s : ST} {r_X11_reads : Int32 → Int32 → Int32 → Int32 → Int32 → ST → Option (Int32 × ST)} {r_X11_readsItems : Int32 → Int32 → Int32 → Int32 → ST → Option (Int32 × ST)} {r_X11_readsRecord : Int32 → Int32 → Int32 → Int32 → ST → Option (Int32 × ST)} {x1 : Int32} {x3 : Int32} {x4 : Int32} {x5 : Int32} {x7 : Int32} {y0 : Int32} {σ : ST} (h_r_X11_reads : ∀ (x1 : Int32) (x2 : Int32) (x3 : Int32) (x4 : Int32) (x5 : Int32) (σ : ST), KRB s σ → PF st1 (KRB s) (r_X11_reads x1 x2 x3 x4 x5 σ)) (h_r_X11_readsItems : ∀ (x1 : Int32) (x2 : Int32) (x3 : Int32) (x4 : Int32) (σ : ST), KRB s σ → PF st1 (KRB s) (r_X11_readsItems x1 x2 x3 x4 σ)) (h_r_X11_readsRecord : ∀ (x1 : Int32) (x2 : Int32) (x3 : Int32) (x4 : Int32) (σ : ST), KRB s σ → PF st1 (KRB s) (r_X11_readsRecord x1 x2 x3 x4 σ))  (h : KRB s σ) : PF st1 (KRB s) (f_X11_reads_180 r_X11_reads r_X11_readsItems r_X11_readsRecord x1 x3 x4 x5 x7 y0 σ) := by
  unfold f_X11_reads_180
  exact (PF.ite (fun _ => (wr_X11_reads_227 h_r_X11_reads h_r_X11_readsItems h_r_X11_readsRecord h)) (fun _ => (PF.ite (fun _ => (PF.bnd (wr_X11_fails  h) (fun q4 hq4 => (PF.ite (fun _ => (PF.ret1 hq4)) (fun _ => PF.none))))) (fun _ => (PF.ite (fun _ => (PF.bnd (wr_X11_laysNode  h) (fun q2 hq2 => (wr_X11_reads_227 h_r_X11_reads h_r_X11_readsItems h_r_X11_readsRecord hq2)))) (fun _ => PF.none))))))
theorem wr_X11_reads_158 {s : ST} {r_X11_reads : Int32 → Int32 → Int32 → Int32 → Int32 → ST → Option (Int32 × ST)} {r_X11_readsItems : Int32 → Int32 → Int32 → Int32 → ST → Option (Int32 × ST)} {r_X11_readsRecord : Int32 → Int32 → Int32 → Int32 → ST → Option (Int32 × ST)} {x1 : Int32} {x2 : Int32} {x3 : Int32} {x4 : Int32} {x5 : Int32} {y0 : Int32} {σ : ST} (h_r_X11_reads : ∀ (x1 : Int32) (x2 : Int32) (x3 : Int32) (x4 : Int32) (x5 : Int32) (σ : ST), KRB s σ → PF st1 (KRB s) (r_X11_reads x1 x2 x3 x4 x5 σ)) (h_r_X11_readsItems : ∀ (x1 : Int32) (x2 : Int32) (x3 : Int32) (x4 : Int32) (σ : ST), KRB s σ → PF st1 (KRB s) (r_X11_readsItems x1 x2 x3 x4 σ)) (h_r_X11_readsRecord : ∀ (x1 : Int32) (x2 : Int32) (x3 : Int32) (x4 : Int32) (σ : ST), KRB s σ → PF st1 (KRB s) (r_X11_readsRecord x1 x2 x3 x4 σ))  (h : KRB s σ) : PF st1 (KRB s) (f_X11_reads_158 r_X11_reads r_X11_readsItems r_X11_readsRecord x1 x2 x3 x4 x5 y0 σ) := by
  unfold f_X11_reads_158
  exact (PF.ite (fun _ => (PF.ite (fun _ => (wr_X11_reads_180 h_r_X11_reads h_r_X11_readsItems h_r_X11_readsRecord h)) (fun _ => PF.none))) (fun _ => (wr_X11_reads_180 h_r_X11_reads h_r_X11_readsItems h_r_X11_readsRecord h)))
theorem wr_X11_reads_157 {s : ST} {r_X11_reads : Int32 → Int32 → Int32 → Int32 → Int32 → ST → Option (Int32 × ST)} {r_X11_readsItems : Int32 → Int32 → Int32 → Int32 → ST → Option (Int32 × ST)} {r_X11_readsRecord : Int32 → Int32 → Int32 → Int32 → ST → Option (Int32 × ST)} {x1 : Int32} {x2 : Int32} {x3 : Int32} {x4 : Int32} {x5 : Int32} {σ : ST} (h_r_X11_reads : ∀ (x1 : Int32) (x2 : Int32) (x3 : Int32) (x4 : Int32) (x5 : Int32) (σ : ST), KRB s σ → PF st1 (KRB s) (r_X11_reads x1 x2 x3 x4 x5 σ)) (h_r_X11_readsItems : ∀ (x1 : Int32) (x2 : Int32) (x3 : Int32) (x4 : Int32) (σ : ST), KRB s σ → PF st1 (KRB s) (r_X11_readsItems x1 x2 x3 x4 σ)) (h_r_X11_readsRecord : ∀ (x1 : Int32) (x2 : Int32) (x3 : Int32) (x4 : Int32) (σ : ST), KRB s σ → PF st1 (KRB s) (r_X11_readsRecord x1 x2 x3 x4 σ))  (h : KRB s σ) : PF st1 (KRB s) (f_X11_reads_157 r_X11_reads r_X11_readsItems r_X11_readsRecord x1 x2 x3 x4 x5 σ) := by
  unfold f_X11_reads_157
  exact (wr_X11_reads_158 h_r_X11_reads h_r_X11_readsItems h_r_X11_readsRecord h)
theorem wr_T_X11_chosen {s : ST} {p0 : Int32} {p1 : Int32} {σ : ST} (h : KRB s σ) : PF st1 (KRB s) (f_T_X11_chosen p0 p1 σ) := (wrR_X11_chosen FRB).1 _ _ _  h
theorem wr_X11_reads {s : ST} {r_X11_reads : Int32 → Int32 → Int32 → Int32 → Int32 → ST → Option (Int32 × ST)} {r_X11_readsItems : Int32 → Int32 → Int32 → Int32 → ST → Option (Int32 × ST)} {r_X11_readsRecord : Int32 → Int32 → Int32 → Int32 → ST → Option (Int32 × ST)} {p0 : Int32} {p1 : Int32} {p2 : Int32} {p3 : Int32} {p4 : Int32} {σ : ST} (h_r_X11_reads : ∀ (x1 : Int32) (x2 : Int32) (x3 : Int32) (x4 : Int32) (x5 : Int32) (σ : ST), KRB s σ → PF st1 (KRB s) (r_X11_reads x1 x2 x3 x4 x5 σ)) (h_r_X11_readsItems : ∀ (x1 : Int32) (x2 : Int32) (x3 : Int32) (x4 : Int32) (σ : ST), KRB s σ → PF st1 (KRB s) (r_X11_readsItems x1 x2 x3 x4 σ)) (h_r_X11_readsRecord : ∀ (x1 : Int32) (x2 : Int32) (x3 : Int32) (x4 : Int32) (σ : ST), KRB s σ → PF st1 (KRB s) (r_X11_readsRecord x1 x2 x3 x4 σ))  (h : KRB s σ) : PF st1 (KRB s) (f_X11_reads r_X11_reads r_X11_readsItems r_X11_readsRecord p0 p1 p2 p3 p4 σ) := by
  unfold f_X11_reads
  exact (PF.ite (fun _ => (PF.ite (fun _ => (PF.ite (fun _ => (PF.bnd (wr_X11_readsInt  h) (fun q5 hq5 => (PF.ite (fun _ => (PF.ret1 hq5)) (fun _ => (PF.ite (fun _ => (PF.ite (fun _ => (wr_X11_reads_96 h_r_X11_reads h_r_X11_readsItems h_r_X11_readsRecord hq5)) (fun _ => (PF.bnd (wr_T_X11_match hq5) (fun q8 hq8 => (PF.ite (fun _ => (PF.bnd (wr_X11_fails  hq8) (fun q10 hq10 => (PF.ite (fun _ => (PF.ret1 hq10)) (fun _ => PF.none))))) (fun _ => (wr_X11_reads_96 h_r_X11_reads h_r_X11_readsItems h_r_X11_readsRecord hq8)))))))) (fun _ => PF.none))))))) (fun _ => (PF.ite (fun _ => (wr_X11_reads_157 h_r_X11_reads h_r_X11_readsItems h_r_X11_readsRecord h)) (fun _ => (PF.ite (fun _ => (PF.ite (fun _ => (PF.bnd (wr_T_X11_chosen h) (fun q3 hq3 => (wr_X11_reads_158 h_r_X11_reads h_r_X11_readsItems h_r_X11_readsRecord hq3)))) (fun _ => (wr_X11_reads_157 h_r_X11_reads h_r_X11_readsItems h_r_X11_readsRecord h)))) (fun _ => PF.none))))))) (fun _ => PF.none))) (fun _ => (PF.bnd (wr_X11_fails  h) (fun q12 hq12 => (PF.ite (fun _ => (PF.ret1 hq12)) (fun _ => PF.none))))))
theorem wr_X11_readsItems_64 {s : ST} {r_X11_reads : Int32 → Int32 → Int32 → Int32 → Int32 → ST → Option (Int32 × ST)} {r_X11_readsItems : Int32 → Int32 → Int32 → Int32 → ST → Option (Int32 × ST)} {r_X11_readsRecord : Int32 → Int32 → Int32 → Int32 → ST → Option (Int32 × ST)} {k27 : Int32 → Int32 → Int32 → Int32 → Int32 → Int32 → ST → Option (Int32 × ST)} {x1 : Int32} {x2 : Int32} {x3 : Int32} {x4 : Int32} {x5 : Int32} {x6 : Int32} {y0 : Int32} {y1 : Int32} {σ : ST} (h_r_X11_reads : ∀ (x1 : Int32) (x2 : Int32) (x3 : Int32) (x4 : Int32) (x5 : Int32) (σ : ST), KRB s σ → PF st1 (KRB s) (r_X11_reads x1 x2 x3 x4 x5 σ)) (h_r_X11_readsItems : ∀ (x1 : Int32) (x2 : Int32) (x3 : Int32) (x4 : Int32) (σ : ST), KRB s σ → PF st1 (KRB s) (r_X11_readsItems x1 x2 x3 x4 σ)) (h_r_X11_readsRecord : ∀ (x1 : Int32) (x2 : Int32) (x3 : Int32) (x4 : Int32) (σ : ST), KRB s σ → PF st1 (KRB s) (r_X11_readsRecord x1 x2 x3 x4 σ)) (h_k27 : ∀ (x1 : Int32) (x2 : Int32) (x3 : Int32) (x4 : Int32) (x5 : Int32) (x6 : Int32) (σ : ST), KRB s σ → PF st1 (KRB s) (k27 x1 x2 x3 x4 x5 x6 σ))  (h : KRB s σ) : PF st1 (KRB s) (f_X11_readsItems_64 r_X11_reads r_X11_readsItems r_X11_readsRecord k27 x1 x2 x3 x4 x5 x6 y0 y1 σ) := by
  unfold f_X11_readsItems_64
  exact (PF.bnd (h_r_X11_reads _ _ _ _ _ _ h) (fun q1 hq1 => (PF.ite (fun _ => (PF.ret1 hq1)) (fun _ => (h_k27 _ _ _ _ _ _ _ (KRB.i (by omega) hq1))))))
theorem wr_X11_readsItems_27 {s : ST} {r_X11_reads : Int32 → Int32 → Int32 → Int32 → Int32 → ST → Option (Int32 × ST)} {r_X11_readsItems : Int32 → Int32 → Int32 → Int32 → ST → Option (Int32 × ST)} {r_X11_readsRecord : Int32 → Int32 → Int32 → Int32 → ST → Option (Int32 × ST)} (h_r_X11_reads : ∀ (x1 : Int32) (x2 : Int32) (x3 : Int32) (x4 : Int32) (x5 : Int32) (σ : ST), KRB s σ → PF st1 (KRB s) (r_X11_reads x1 x2 x3 x4 x5 σ)) (h_r_X11_readsItems : ∀ (x1 : Int32) (x2 : Int32) (x3 : Int32) (x4 : Int32) (σ : ST), KRB s σ → PF st1 (KRB s) (r_X11_readsItems x1 x2 x3 x4 σ)) (h_r_X11_readsRecord : ∀ (x1 : Int32) (x2 : Int32) (x3 : Int32) (x4 : Int32) (σ : ST), KRB s σ → PF st1 (KRB s) (r_X11_readsRecord x1 x2 x3 x4 σ))  : ∀ (n : Nat) (x1 : Int32) (x2 : Int32) (x3 : Int32) (x4 : Int32) (x5 : Int32) (x6 : Int32) (σ : ST), KRB s σ → PF st1 (KRB s) (f_X11_readsItems_27 r_X11_reads r_X11_readsItems r_X11_readsRecord n x1 x2 x3 x4 x5 x6 σ) := by
  intro n
  induction n with
  | zero => intro x1 x2 x3 x4 x5 x6 σ h; rw [f_X11_readsItems_27]; exact PF.none
  | succ n ih =>
    intro x1 x2 x3 x4 x5 x6 σ h
    rw [f_X11_readsItems_27]
    exact (PF.ite (fun _ => (PF.ret1 h)) (fun _ => (PF.bnd (wr_X11_enters  h) (fun q1 hq1 => (PF.ite (fun _ => (PF.ite (fun _ => (PF.ite (fun _ => (wr_X11_readsItems_64 h_r_X11_reads h_r_X11_readsItems h_r_X11_readsRecord ih hq1)) (fun _ => PF.none))) (fun _ => (wr_X11_readsItems_64 h_r_X11_reads h_r_X11_readsItems h_r_X11_readsRecord ih hq1)))) (fun _ => PF.none))))))
theorem wr_X11_readsItems {s : ST} {r_X11_reads : Int32 → Int32 → Int32 → Int32 → Int32 → ST → Option (Int32 × ST)} {r_X11_readsItems : Int32 → Int32 → Int32 → Int32 → ST → Option (Int32 × ST)} {r_X11_readsRecord : Int32 → Int32 → Int32 → Int32 → ST → Option (Int32 × ST)} {p0 : Int32} {p1 : Int32} {p2 : Int32} {p3 : Int32} {σ : ST} (h_r_X11_reads : ∀ (x1 : Int32) (x2 : Int32) (x3 : Int32) (x4 : Int32) (x5 : Int32) (σ : ST), KRB s σ → PF st1 (KRB s) (r_X11_reads x1 x2 x3 x4 x5 σ)) (h_r_X11_readsItems : ∀ (x1 : Int32) (x2 : Int32) (x3 : Int32) (x4 : Int32) (σ : ST), KRB s σ → PF st1 (KRB s) (r_X11_readsItems x1 x2 x3 x4 σ)) (h_r_X11_readsRecord : ∀ (x1 : Int32) (x2 : Int32) (x3 : Int32) (x4 : Int32) (σ : ST), KRB s σ → PF st1 (KRB s) (r_X11_readsRecord x1 x2 x3 x4 σ))  (h : KRB s σ) : PF st1 (KRB s) (f_X11_readsItems r_X11_reads r_X11_readsItems r_X11_readsRecord p0 p1 p2 p3 σ) := by
  unfold f_X11_readsItems
  exact (PF.bnd (wr_X11_readsInt  h) (fun q1 hq1 => (PF.ite (fun _ => (PF.ret1 hq1)) (fun _ => (wr_X11_readsItems_27 h_r_X11_reads h_r_X11_readsItems h_r_X11_readsRecord _ _ _ _ _ _ _ _ hq1)))))
theorem wr_X11_fieldOf_3 {s : ST}    : ∀ (n : Nat) (x1 : Int32) (x2 : Int64) (x3 : Int32) (σ : ST), KRB s σ → PF st1 (KRB s) (f_X11_fieldOf_3  n x1 x2 x3 σ) := by
  intro n
  induction n with
  | zero => intro x1 x2 x3 σ h; rw [f_X11_fieldOf_3]; exact PF.none
  | succ n ih =>
    intro x1 x2 x3 σ h
    rw [f_X11_fieldOf_3]
    exact (PF.ite (fun _ => (PF.ite (fun _ => (PF.ret1 h)) (fun _ => (PF.ite (fun _ => (PF.ite (fun _ => (PF.ret1 h)) (fun _ => (ih _ _ _ _ h)))) (fun _ => PF.none))))) (fun _ => PF.none))
theorem wr_X11_fieldOf {s : ST} {p0 : Int32} {p1 : Int64} {σ : ST}   (h : KRB s σ) : PF st1 (KRB s) (f_X11_fieldOf p0 p1 σ) := by
  unfold f_X11_fieldOf
  exact (wr_X11_fieldOf_3  _ _ _ _ _ h)
theorem wr_X11_fieldFor {s : ST} {p0 : Int32} {p1 : Int32} {σ : ST}   (h : KRB s σ) : PF st1 (KRB s) (f_X11_fieldFor p0 p1 σ) := by
  unfold f_X11_fieldFor
  exact (PF.ite (fun _ => (PF.bnd (wr_X11_fieldOf  h) (fun q2 hq2 => (PF.ite (fun _ => (PF.ret1 hq2)) (fun _ => (PF.ite (fun _ => (PF.ret1 hq2)) (fun _ => (PF.bnd (wr_X11_fieldOf  hq2) (fun q4 hq4 => (PF.ret1 hq4)))))))))) (fun _ => PF.none))
theorem wr_X11_readsRecord_286 {s : ST} {r_X11_reads : Int32 → Int32 → Int32 → Int32 → Int32 → ST → Option (Int32 × ST)} {r_X11_readsItems : Int32 → Int32 → Int32 → Int32 → ST → Option (Int32 × ST)} {r_X11_readsRecord : Int32 → Int32 → Int32 → Int32 → ST → Option (Int32 × ST)} {k217 : Int32 → Int32 → Int32 → Int32 → Int32 → ST → Option (Int32 × ST)} {x1 : Int32} {x2 : Int32} {x4 : Int32} {x6 : Int32} {x7 : Int32} {σ : ST} (h_r_X11_reads : ∀ (x1 : Int32) (x2 : Int32) (x3 : Int32) (x4 : Int32) (x5 : Int32) (σ : ST), KRB s σ → PF st1 (KRB s) (r_X11_reads x1 x2 x3 x4 x5 σ)) (h_r_X11_readsItems : ∀ (x1 : Int32) (x2 : Int32) (x3 : Int32) (x4 : Int32) (σ : ST), KRB s σ → PF st1 (KRB s) (r_X11_readsItems x1 x2 x3 x4 σ)) (h_r_X11_readsRecord : ∀ (x1 : Int32) (x2 : Int32) (x3 : Int32) (x4 : Int32) (σ : ST), KRB s σ → PF st1 (KRB s) (r_X11_readsRecord x1 x2 x3 x4 σ)) (h_k217 : ∀ (x1 : Int32) (x2 : Int32) (x3 : Int32) (x4 : Int32) (x5 : Int32) (σ : ST), KRB s σ → PF st1 (KRB s) (k217 x1 x2 x3 x4 x5 σ))  (h : KRB s σ) : PF st1 (KRB s) (f_X11_readsRecord_286 r_X11_reads r_X11_readsItems r_X11_readsRecord k217 x1 x2 x4 x6 x7 σ) := by
  unfold f_X11_readsRecord_286
  exact (h_k217 _ _ _ _ _ _ h)
theorem wr_X11_firstOf {s : ST} {p0 : Int32} {σ : ST}   (h : KRB s σ) : PF st1 (KRB s) (f_X11_firstOf p0 σ) := by
  unfold f_X11_firstOf
  exact (PF.ite (fun _ => (PF.ite (fun _ => (PF.ite (fun _ => (PF.ret1 h)) (fun _ => PF.none))) (fun _ => (PF.ret1 h)))) (fun _ => PF.none))
theorem wr_X11_fills_103 {s : ST} {x6 : Int32} {y0 : Int32} {y1 : Int32} {σ : ST}   (h : KRB s σ) : PF st0 (KRB s) (f_X11_fills_103 x6 y0 y1 σ) := by
  unfold f_X11_fills_103
  exact (PF.ite (fun _ => (PF.ite (fun _ => (PF.ret0 (KRB.i (by omega) (KRB.i (by omega) h)))) (fun _ => PF.none))) (fun _ => PF.none))
theorem wr_X11_fills_45 {s : ST} {x1 : Int32} {x5 : Int32} {y0 : Int32} {y1 : Int32} {y2 : Int32} {y3 : Int32} {σ : ST}   (h : KRB s σ) : PF st0 (KRB s) (f_X11_fills_45 x1 x5 y0 y1 y2 y3 σ) := by
  unfold f_X11_fills_45
  exact (PF.bnd (wr_X11_laysNode  h) (fun q1 hq1 => (PF.ite (fun _ => (PF.ite (fun _ => (PF.bnd (PF.ret0 (KRB.l (by omega) (KRB.l (by omega) hq1))) (fun z5 hz5 => (PF.ite (fun _ => (PF.ite (fun _ => (wr_X11_fills_103  hz5)) (fun _ => (wr_X11_fills_103  hz5)))) (fun _ => PF.none))))) (fun _ => PF.none))) (fun _ => PF.none))))
theorem wr_X11_fills {s : ST} {p0 : Int32} {p1 : Int32} {p2 : Int32} {σ : ST}   (h : KRB s σ) : PF st0 (KRB s) (f_X11_fills p0 p1 p2 σ) := by
  unfold f_X11_fills
  exact (PF.ite (fun _ => (PF.bnd (wr_X11_firstOf  h) (fun q2 hq2 => (PF.ite (fun _ => (PF.ite (fun _ => (wr_X11_fills_45  hq2)) (fun _ => (wr_X11_fills_45  hq2)))) (fun _ => PF.none))))) (fun _ => PF.none))
theorem wr_X11_readsRecord_217 {s : ST} {r_X11_reads : Int32 → Int32 → Int32 → Int32 → Int32 → ST → Option (Int32 × ST)} {r_X11_readsItems : Int32 → Int32 → Int32 → Int32 → ST → Option (Int32 × ST)} {r_X11_readsRecord : Int32 → Int32 → Int32 → Int32 → ST → Option (Int32 × ST)} (h_r_X11_reads : ∀ (x1 : Int32) (x2 : Int32) (x3 : Int32) (x4 : Int32) (x5 : Int32) (σ : ST), KRB s σ → PF st1 (KRB s) (r_X11_reads x1 x2 x3 x4 x5 σ)) (h_r_X11_readsItems : ∀ (x1 : Int32) (x2 : Int32) (x3 : Int32) (x4 : Int32) (σ : ST), KRB s σ → PF st1 (KRB s) (r_X11_readsItems x1 x2 x3 x4 σ)) (h_r_X11_readsRecord : ∀ (x1 : Int32) (x2 : Int32) (x3 : Int32) (x4 : Int32) (σ : ST), KRB s σ → PF st1 (KRB s) (r_X11_readsRecord x1 x2 x3 x4 σ))  : ∀ (n : Nat) (x1 : Int32) (x2 : Int32) (x3 : Int32) (x4 : Int32) (x5 : Int32) (σ : ST), KRB s σ → PF st1 (KRB s) (f_X11_readsRecord_217 r_X11_reads r_X11_readsItems r_X11_readsRecord n x1 x2 x3 x4 x5 σ) := by
  intro n
  induction n with
  | zero => intro x1 x2 x3 x4 x5 σ h; rw [f_X11_readsRecord_217]; exact PF.none
  | succ n ih =>
    intro x1 x2 x3 x4 x5 σ h
    rw [f_X11_readsRecord_217]
    exact (PF.ite (fun _ => (PF.ret1 h)) (fun _ => (PF.ite (fun _ => (PF.ite (fun _ => (PF.ret1 h)) (fun _ => (PF.ite (fun _ => (PF.bnd (wr_X11_fieldFor  h) (fun q3 hq3 => (PF.ite (fun _ => (wr_X11_readsRecord_286 h_r_X11_reads h_r_X11_readsItems h_r_X11_readsRecord ih hq3)) (fun _ => (PF.ite (fun _ => (PF.bnd (wr_X11_fails  hq3) (fun q7 hq7 => (PF.ite (fun _ => (PF.ret1 hq7)) (fun _ => PF.none))))) (fun _ => (PF.bnd (wr_X11_fills  hq3) (fun q5 hq5 => (wr_X11_readsRecord_286 h_r_X11_reads h_r_X11_readsItems h_r_X11_readsRecord ih hq5)))))))))) (fun _ => PF.none))))) (fun _ => PF.none))))
theorem wr_X11_readsRecord_198 {s : ST} {r_X11_reads : Int32 → Int32 → Int32 → Int32 → Int32 → ST → Option (Int32 × ST)} {r_X11_readsItems : Int32 → Int32 → Int32 → Int32 → ST → Option (Int32 × ST)} {r_X11_readsRecord : Int32 → Int32 → Int32 → Int32 → ST → Option (Int32 × ST)} {k43 : Int32 → Int32 → Int32 → Int32 → Int32 → Int32 → Int32 → ST → Option (Int32 × ST)} {x1 : Int32} {x2 : Int32} {x3 : Int32} {x4 : Int32} {x5 : Int32} {x6 : Int32} {x7 : Int32} {σ : ST} (h_r_X11_reads : ∀ (x1 : Int32) (x2 : Int32) (x3 : Int32) (x4 : Int32) (x5 : Int32) (σ : ST), KRB s σ → PF st1 (KRB s) (r_X11_reads x1 x2 x3 x4 x5 σ)) (h_r_X11_readsItems : ∀ (x1 : Int32) (x2 : Int32) (x3 : Int32) (x4 : Int32) (σ : ST), KRB s σ → PF st1 (KRB s) (r_X11_readsItems x1 x2 x3 x4 σ)) (h_r_X11_readsRecord : ∀ (x1 : Int32) (x2 : Int32) (x3 : Int32) (x4 : Int32) (σ : ST), KRB s σ → PF st1 (KRB s) (r_X11_readsRecord x1 x2 x3 x4 σ)) (h_k43 : ∀ (x1 : Int32) (x2 : Int32) (x3 : Int32) (x4 : Int32) (x5 : Int32) (x6 : Int32) (x7 : Int32) (σ : ST), KRB s σ → PF st1 (KRB s) (k43 x1 x2 x3 x4 x5 x6 x7 σ))  (h : KRB s σ) : PF st1 (KRB s) (f_X11_readsRecord_198 r_X11_reads r_X11_readsItems r_X11_readsRecord k43 x1 x2 x3 x4 x5 x6 x7 σ) := by
  unfold f_X11_readsRecord_198
  exact (h_k43 _ _ _ _ _ _ _ _ (KRB.i (by omega) h))
theorem wr_X11_readsRecord_171 {s : ST} {r_X11_reads : Int32 → Int32 → Int32 → Int32 → Int32 → ST → Option (Int32 × ST)} {r_X11_readsItems : Int32 → Int32 → Int32 → Int32 → ST → Option (Int32 × ST)} {r_X11_readsRecord : Int32 → Int32 → Int32 → Int32 → ST → Option (Int32 × ST)} {k43 : Int32 → Int32 → Int32 → Int32 → Int32 → Int32 → Int32 → ST → Option (Int32 × ST)} {x1 : Int32} {x2 : Int32} {x3 : Int32} {x4 : Int32} {x5 : Int32} {x6 : Int32} {x7 : Int32} {x8 : Int32} {x10 : Int32} {σ : ST} (h_r_X11_reads : ∀ (x1 : Int32) (x2 : Int32) (x3 : Int32) (x4 : Int32) (x5 : Int32) (σ : ST), KRB s σ → PF st1 (KRB s) (r_X11_reads x1 x2 x3 x4 x5 σ)) (h_r_X11_readsItems : ∀ (x1 : Int32) (x2 : Int32) (x3 : Int32) (x4 : Int32) (σ : ST), KRB s σ → PF st1 (KRB s) (r_X11_readsItems x1 x2 x3 x4 σ)) (h_r_X11_readsRecord : ∀ (x1 : Int32) (x2 : Int32) (x3 : Int32) (x4 : Int32) (σ : ST), KRB s σ → PF st1 (KRB s) (r_X11_readsRecord x1 x2 x3 x4 σ)) (h_k43 : ∀ (x1 : Int32) (x2 : Int32) (x3 : Int32) (x4 : Int32) (x5 : Int32) (x6 : Int32) (x7 : Int32) (σ : ST), KRB s σ → PF st1 (KRB s) (k43 x1 x2 x3 x4 x5 x6 x7 σ))  (h : KRB s σ) : PF st1 (KRB s) (f_X11_readsRecord_171 r_X11_reads r_X11_readsItems r_X11_readsRecord k43 x1 x2 x3 x4 x5 x6 x7 x8 x10 σ) := by
  unfold f_X11_readsRecord_171
  exact (PF.ite (fun _ => (PF.ite (fun _ => (PF.bnd (h_r_X11_reads _ _ _ _ _ _ h) (fun q2 hq2 => (PF.ite (fun _ => (PF.ret1 hq2)) (fun _ => (wr_X11_readsRecord_198 h_r_X11_reads h_r_X11_readsItems h_r_X11_readsRecord h_k43 hq2)))))) (fun _ => PF.none))) (fun _ => (wr_X11_readsRecord_198 h_r_X11_reads h_r_X11_readsItems h_r_X11_readsRecord h_k43 h)))
theorem wr_X11_readsRecord_165 {s : ST} {r_X11_reads : Int32 → Int32 → Int32 → Int32 → Int32 → ST → Option (Int32 × ST)} {r_X11_readsItems : Int32 → Int32 → Int32 → Int32 → ST → Option (Int32 × ST)} {r_X11_readsRecord : Int32 → Int32 → Int32 → Int32 → ST → Option (Int32 × ST)} {k43 : Int32 → Int32 → Int32 → Int32 → Int32 → Int32 → Int32 → ST → Option (Int32 × ST)} {k83 : Int32 → Int32 → Int32 → Int32 → Int32 → Int32 → Int32 → Int32 → Int32 → Int32 → Int32 → ST → Option (Int32 × ST)} {x1 : Int32} {x2 : Int32} {x3 : Int32} {x4 : Int32} {x5 : Int32} {x6 : Int32} {x7 : Int32} {x8 : Int32} {x9 : Int32} {x10 : Int32} {x11 : Int32} {σ : ST} (h_r_X11_reads : ∀ (x1 : Int32) (x2 : Int32) (x3 : Int32) (x4 : Int32) (x5 : Int32) (σ : ST), KRB s σ → PF st1 (KRB s) (r_X11_reads x1 x2 x3 x4 x5 σ)) (h_r_X11_readsItems : ∀ (x1 : Int32) (x2 : Int32) (x3 : Int32) (x4 : Int32) (σ : ST), KRB s σ → PF st1 (KRB s) (r_X11_readsItems x1 x2 x3 x4 σ)) (h_r_X11_readsRecord : ∀ (x1 : Int32) (x2 : Int32) (x3 : Int32) (x4 : Int32) (σ : ST), KRB s σ → PF st1 (KRB s) (r_X11_readsRecord x1 x2 x3 x4 σ)) (h_k43 : ∀ (x1 : Int32) (x2 : Int32) (x3 : Int32) (x4 : Int32) (x5 : Int32) (x6 : Int32) (x7 : Int32) (σ : ST), KRB s σ → PF st1 (KRB s) (k43 x1 x2 x3 x4 x5 x6 x7 σ)) (h_k83 : ∀ (x1 : Int32) (x2 : Int32) (x3 : Int32) (x4 : Int32) (x5 : Int32) (x6 : Int32) (x7 : Int32) (x8 : Int32) (x9 : Int32) (x10 : Int32) (x11 : Int32) (σ : ST), KRB s σ → PF st1 (KRB s) (k83 x1 x2 x3 x4 x5 x6 x7 x8 x9 x10 x11 σ))  (h : KRB s σ) : PF st1 (KRB s) (f_X11_readsRecord_165 r_X11_reads r_X11_readsItems r_X11_readsRecord k43 k83 x1 x2 x3 x4 x5 x6 x7 x8 x9 x10 x11 σ) := by
  unfold f_X11_readsRecord_165
  exact (h_k83 _ _ _ _ _ _ _ _ _ _ _ _ h)
theorem wr_X11_readsRecord_83 {s : ST} {r_X11_reads : Int32 → Int32 → Int32 → Int32 → Int32 → ST → Option (Int32 × ST)} {r_X11_readsItems : Int32 → Int32 → Int32 → Int32 → ST → Option (Int32 × ST)} {r_X11_readsRecord : Int32 → Int32 → Int32 → Int32 → ST → Option (Int32 × ST)} {k43 : Int32 → Int32 → Int32 → Int32 → Int32 → Int32 → Int32 → ST → Option (Int32 × ST)} (h_r_X11_reads : ∀ (x1 : Int32) (x2 : Int32) (x3 : Int32) (x4 : Int32) (x5 : Int32) (σ : ST), KRB s σ → PF st1 (KRB s) (r_X11_reads x1 x2 x3 x4 x5 σ)) (h_r_X11_readsItems : ∀ (x1 : Int32) (x2 : Int32) (x3 : Int32) (x4 : Int32) (σ : ST), KRB s σ → PF st1 (KRB s) (r_X11_readsItems x1 x2 x3 x4 σ)) (h_r_X11_readsRecord : ∀ (x1 : Int32) (x2 : Int32) (x3 : Int32) (x4 : Int32) (σ : ST), KRB s σ → PF st1 (KRB s) (r_X11_readsRecord x1 x2 x3 x4 σ)) (h_k43 : ∀ (x1 : Int32) (x2 : Int32) (x3 : Int32) (x4 : Int32) (x5 : Int32) (x6 : Int32) (x7 : Int32) (σ : ST), KRB s σ → PF st1 (KRB s) (k43 x1 x2 x3 x4 x5 x6 x7 σ))  : ∀ (n : Nat) (x1 : Int32) (x2 : Int32) (x3 : Int32) (x4 : Int32) (x5 : Int32) (x6 : Int32) (x7 : Int32) (x8 : Int32) (x9 : Int32) (x10 : Int32) (x11 : Int32) (σ : ST), KRB s σ → PF st1 (KRB s) (f_X11_readsRecord_83 r_X11_reads r_X11_readsItems r_X11_readsRecord k43 n x1 x2 x3 x4 x5 x6 x7 x8 x9 x10 x11 σ) := by
  intro n
  induction n with
  | zero => intro x1 x2 x3 x4 x5 x6 x7 x8 x9 x10 x11 σ h; rw [f_X11_readsRecord_83]; exact PF.none
  | succ n ih =>
    intro x1 x2 x3 x4 x5 x6 x7 x8 x9 x10 x11 σ h
    rw [f_X11_readsRecord_83]
    exact (PF.ite (fun _ => (wr_X11_readsRecord_171 h_r_X11_reads h_r_X11_readsItems h_r_X11_readsRecord h_k43 h)) (fun _ => (PF.ite (fun _ => (PF.ite (fun _ => (wr_X11_readsRecord_171 h_r_X11_reads h_r_X11_readsItems h_r_X11_readsRecord h_k43 h)) (fun _ => (PF.ite (fun _ => (PF.bnd (wr_X11_fieldFor  h) (fun q3 hq3 => (PF.ite (fun _ => (PF.ite (fun _ => (PF.ite (fun _ => (PF.bnd (h_r_X11_reads _ _ _ _ _ _ (KRB.i (by omega) hq3)) (fun q7 hq7 => (PF.ite (fun _ => (PF.ret1 hq7)) (fun _ => (wr_X11_readsRecord_165 h_r_X11_reads h_r_X11_readsItems h_r_X11_readsRecord h_k43 ih hq7)))))) (fun _ => PF.none))) (fun _ => PF.none))) (fun _ => (wr_X11_readsRecord_165 h_r_X11_reads h_r_X11_readsItems h_r_X11_readsRecord h_k43 ih hq3)))))) (fun _ => PF.none))))) (fun _ => PF.none))))
theorem wr_X11_readsRecord_43 {s : ST} {r_X11_reads : Int32 → Int32 → Int32 → Int32 → Int32 → ST → Option (Int32 × ST)} {r_X11_readsItems : Int32 → Int32 → Int32 → Int32 → ST → Option (Int32 × ST)} {r_X11_readsRecord : Int32 → Int32 → Int32 → Int32 → ST → Option (Int32 × ST)} (h_r_X11_reads : ∀ (x1 : Int32) (x2 : Int32) (x3 : Int32) (x4 : Int32) (x5 : Int32) (σ : ST), KRB s σ → PF st1 (KRB s) (r_X11_reads x1 x2 x3 x4 x5 σ)) (h_r_X11_readsItems : ∀ (x1 : Int32) (x2 : Int32) (x3 : Int32) (x4 : Int32) (σ : ST), KRB s σ → PF st1 (KRB s) (r_X11_readsItems x1 x2 x3 x4 σ)) (h_r_X11_readsRecord : ∀ (x1 : Int32) (x2 : Int32) (x3 : Int32) (x4 : Int32) (σ : ST), KRB s σ → PF st1 (KRB s) (r_X11_readsRecord x1 x2 x3 x4 σ))  : ∀ (n : Nat) (x1 : Int32) (x2 : Int32) (x3 : Int32) (x4 : Int32) (x5 : Int32) (x6 : Int32) (x7 : Int32) (σ : ST), KRB s σ → PF st1 (KRB s) (f_X11_readsRecord_43 r_X11_reads r_X11_readsItems r_X11_readsRecord n x1 x2 x3 x4 x5 x6 x7 σ) := by
  intro n
  induction n with
  | zero => intro x1 x2 x3 x4 x5 x6 x7 σ h; rw [f_X11_readsRecord_43]; exact PF.none
  | succ n ih =>
    intro x1 x2 x3 x4 x5 x6 x7 σ h
    rw [f_X11_readsRecord_43]
    exact (PF.ite (fun _ => (PF.ite (fun _ => (wr_X11_readsRecord_217 h_r_X11_reads h_r_X11_readsItems h_r_X11_readsRecord _ _ _ _ _ _ _ h)) (fun _ => (PF.bnd (wr_X11_enters  h) (fun q2 hq2 => (wr_X11_readsRecord_83 h_r_X11_reads h_r_X11_readsItems h_r_X11_readsRecord ih _ _ _ _ _ _ _ _ _ _ _ _ _ hq2)))))) (fun _ => PF.none))
theorem wr_X11_readsRecord_38 {s : ST} {r_X11_reads : Int32 → Int32 → Int32 → Int32 → Int32 → ST → Option (Int32 × ST)} {r_X11_readsItems : Int32 → Int32 → Int32 → Int32 → ST → Option (Int32 × ST)} {r_X11_readsRecord : Int32 → Int32 → Int32 → Int32 → ST → Option (Int32 × ST)} {x1 : Int32} {x2 : Int32} {x3 : Int32} {x4 : Int32} {x5 : Int32} {y0 : Int32} {σ : ST} (h_r_X11_reads : ∀ (x1 : Int32) (x2 : Int32) (x3 : Int32) (x4 : Int32) (x5 : Int32) (σ : ST), KRB s σ → PF st1 (KRB s) (r_X11_reads x1 x2 x3 x4 x5 σ)) (h_r_X11_readsItems : ∀ (x1 : Int32) (x2 : Int32) (x3 : Int32) (x4 : Int32) (σ : ST), KRB s σ → PF st1 (KRB s) (r_X11_readsItems x1 x2 x3 x4 σ)) (h_r_X11_readsRecord : ∀ (x1 : Int32) (x2 : Int32) (x3 : Int32) (x4 : Int32) (σ : ST), KRB s σ → PF st1 (KRB s) (r_X11_readsRecord x1 x2 x3 x4 σ))  (h : KRB s σ) : PF st1 (KRB s) (f_X11_readsRecord_38 r_X11_reads r_X11_readsItems r_X11_readsRecord x1 x2 x3 x4 x5 y0 σ) := by
  unfold f_X11_readsRecord_38
  exact (wr_X11_readsRecord_43 h_r_X11_reads h_r_X11_readsItems h_r_X11_readsRecord _ _ _ _ _ _ _ _ _ h)
theorem wr_X11_readsRecord {s : ST} {r_X11_reads : Int32 → Int32 → Int32 → Int32 → Int32 → ST → Option (Int32 × ST)} {r_X11_readsItems : Int32 → Int32 → Int32 → Int32 → ST → Option (Int32 × ST)} {r_X11_readsRecord : Int32 → Int32 → Int32 → Int32 → ST → Option (Int32 × ST)} {p0 : Int32} {p1 : Int32} {p2 : Int32} {p3 : Int32} {σ : ST} (h_r_X11_reads : ∀ (x1 : Int32) (x2 : Int32) (x3 : Int32) (x4 : Int32) (x5 : Int32) (σ : ST), KRB s σ → PF st1 (KRB s) (r_X11_reads x1 x2 x3 x4 x5 σ)) (h_r_X11_readsItems : ∀ (x1 : Int32) (x2 : Int32) (x3 : Int32) (x4 : Int32) (σ : ST), KRB s σ → PF st1 (KRB s) (r_X11_readsItems x1 x2 x3 x4 σ)) (h_r_X11_readsRecord : ∀ (x1 : Int32) (x2 : Int32) (x3 : Int32) (x4 : Int32) (σ : ST), KRB s σ → PF st1 (KRB s) (r_X11_readsRecord x1 x2 x3 x4 σ))  (h : KRB s σ) : PF st1 (KRB s) (f_X11_readsRecord r_X11_reads r_X11_readsItems r_X11_readsRecord p0 p1 p2 p3 σ) := by
  unfold f_X11_readsRecord
  exact (PF.ite (fun _ => (PF.ite (fun _ => (PF.ite (fun _ => (wr_X11_readsRecord_38 h_r_X11_reads h_r_X11_readsItems h_r_X11_readsRecord h)) (fun _ => PF.none))) (fun _ => (wr_X11_readsRecord_38 h_r_X11_reads h_r_X11_readsItems h_r_X11_readsRecord h)))) (fun _ => PF.none))
theorem wrR_X11_reads {s : ST} : ∀ n : Nat, (∀ (p0 : Int32) (p1 : Int32) (p2 : Int32) (p3 : Int32) (p4 : Int32) (σ : ST), KRB s σ → PF st1 (KRB s) ((R_X11_reads n).1 p0 p1 p2 p3 p4 σ)) ∧ (∀ (p0 : Int32) (p1 : Int32) (p2 : Int32) (p3 : Int32) (σ : ST), KRB s σ → PF st1 (KRB s) ((R_X11_reads n).2.1 p0 p1 p2 p3 σ)) ∧ (∀ (p0 : Int32) (p1 : Int32) (p2 : Int32) (p3 : Int32) (σ : ST), KRB s σ → PF st1 (KRB s) ((R_X11_reads n).2.2 p0 p1 p2 p3 σ)) := by
  intro n
  induction n with
  | zero => exact ⟨fun _ _ _ _ _ _ _ => PF.none, fun _ _ _ _ _ _ => PF.none, fun _ _ _ _ _ _ => PF.none⟩
  | succ n ih => exact ⟨fun _ _ _ _ _ _ h => wr_X11_reads (ih.1) (ih.2.1) (ih.2.2)  h, fun _ _ _ _ _ h => wr_X11_readsItems (ih.1) (ih.2.1) (ih.2.2)  h, fun _ _ _ _ _ h => wr_X11_readsRecord (ih.1) (ih.2.1) (ih.2.2)  h⟩
theorem wr_T_X11_reads {s : ST} {p0 : Int32} {p1 : Int32} {p2 : Int32} {p3 : Int32} {p4 : Int32} {σ : ST} (h : KRB s σ) : PF st1 (KRB s) (f_T_X11_reads p0 p1 p2 p3 p4 σ) := (wrR_X11_reads FRB).1 _ _ _ _ _ _  h
/-! bytes and numbers that are read, both sides -/
theorem li_1600' : (1600 : Int32).toInt = 1600 := by decide
/-- both read the same message, at one place; nothing has failed -/
def RPS (b m : Nat) (σ τ : ST) : Prop := (σ.1 b 7 = 0 ∧ (σ.1 b 4).toInt = m ∧ m < 4) ∧ (σ.1 b 5 = τ.1 0 64 ∧ σ.1 b 6 = τ.1 0 65) ∧ ((τ.1 0 63).toInt = 400 * (m : Int) ∧ 0 ≤ (τ.1 0 64).toInt ∧ (τ.1 0 64).toInt ≤ (τ.1 0 65).toInt ∧ (τ.1 0 65).toInt ≤ 400) ∧ ∀ i : Nat, (i : Int) < (τ.1 0 65).toInt → σ.1 38 (400 * m + i) = τ.1 34 (400 * m + i)
/-- only the place moved -/
def PMA (b : Nat) (σ s : ST) : Prop := (∀ c, c ≠ b → s.1 c = σ.1 c) ∧ (∀ i, i ≠ 5 → s.1 b i = σ.1 b i) ∧ s.2 = σ.2
def PMB (τ t : ST) : Prop := (∀ c, c ≠ 0 → t.1 c = τ.1 c) ∧ (∀ i, i ≠ 64 → i ≠ 72 → t.1 0 i = τ.1 0 i) ∧ (∀ c, c ≠ 0 → t.2.1 c = τ.2.1 c)
/-- and nothing else of the reference at all -/
def PMS (τ t : ST) : Prop := (∀ c, c ≠ 0 → t.1 c = τ.1 c) ∧ (∀ i, i ≠ 64 → t.1 0 i = τ.1 0 i) ∧ t.2 = τ.2
theorem PMS.wk {τ t : ST} (h : PMS τ t) : PMB τ t := ⟨h.1, fun i a _ => h.2.1 i a, fun c _ => by rw [h.2.2]⟩
theorem PMA.rf {b : Nat} {σ : ST} : PMA b σ σ := ⟨fun _ _ => rfl, fun _ _ => rfl, rfl⟩
theorem PMB.rf {τ : ST} : PMB τ τ := ⟨fun _ _ => rfl, fun _ _ _ => rfl, fun _ _ => rfl⟩
theorem PMA.trans {b : Nat} {σ s u : ST} (h : PMA b σ s) (k : PMA b s u) : PMA b σ u := ⟨fun c a => (k.1 c a).trans (h.1 c a), fun i a => (k.2.1 i a).trans (h.2.1 i a), k.2.2.trans h.2.2⟩
theorem PMB.trans {σ s u : ST} (h : PMB σ s) (k : PMB s u) : PMB σ u := ⟨fun c a => (k.1 c a).trans (h.1 c a), fun i a d => (k.2.1 i a d).trans (h.2.1 i a d), fun c a => (k.2.2 c a).trans (h.2.2 c a)⟩
theorem PMB.l {τ t : ST} {i : Nat} {v : Int64} (h : PMB τ t) : PMB τ (stL t 0 i v) := ⟨h.1, h.2.1, fun c hc => by rw [stL_ne hc]; exact h.2.2 c hc⟩
theorem PMB.i72 {τ t : ST} {v : Int32} (h : PMB τ t) : PMB τ (stI t 0 72 v) := ⟨fun c hc => by rw [stI_ne hc]; exact h.1 c hc, fun i a d => by rw [stI_at, upN d]; exact h.2.1 i a d, h.2.2⟩
theorem RPS.l {b m : Nat} {σ τ : ST} {i : Nat} {v : Int64} (h : RPS b m σ τ) : RPS b m σ (stL τ 0 i v) := h
theorem RPS.i72 {b m : Nat} {σ τ : ST} {v : Int32} (h : RPS b m σ τ) : RPS b m σ (stI τ 0 72 v) := by
  unfold RPS at h ⊢
  rw [stI_at, upN (by omega), upN (by omega), upN (by omega), stI_ne (by omega)]
  exact h
/-- it failed, on both sides; or it went well -/
def RDO (b m : Nat) (σ τ s t : ST) (ok : Int32) (P : Prop) : Prop := (¬ s.1 b 7 = 0 ∧ ok = 0) ∨ (ok = 1 ∧ RPS b m s t ∧ (PMA b σ s ∧ PMB τ t) ∧ P)
theorem RDO.to {b m : Nat} {σ τ σ' τ' s t : ST} {ok : Int32} {P : Prop} (h : RDO b m σ' τ' s t ok P) (a : PMA b σ σ') (c : PMB τ τ') : RDO b m σ τ s t ok P := by
  rcases h with h | ⟨h1, h2, ⟨h3, h4⟩, h5⟩
  · exact .inl h
  · exact .inr ⟨h1, h2, ⟨a.trans h3, c.trans h4⟩, h5⟩
theorem q_fails36 : ∀ (n : Nat) (x : Int32) (τ : ST), QT (f_X11_fails_36 n x τ) (fun q => q.1 = 0) := by
  intro n
  induction n with
  | zero => intro x τ; exact QT.none
  | succ n ih =>
    intro x τ
    rw [f_X11_fails_36]
    exact QT.ite (fun _ => QT.ret rfl) (fun _ => QT.grd (fun _ => ih _ _))
theorem q_fails (p0 p1 : Int32) (τ : ST) : QT (f_X11_fails p0 p1 τ) (fun q => q.1 = 0) := by
  unfold f_X11_fails f_X11_fails_23 f_X11_fails_31
  exact QT.ite (fun _ => q_fails36 _ _ _) (fun _ => QT.ite (fun _ => q_fails36 _ _ _) (fun _ => q_fails36 _ _ _))
/-- behind a failure the class stays failed -/
theorem a_failed {b t : Nat} (hb : BT b t) (p0 p1 : Int32) (σ : ST) (h0 : ¬ p0 = 0) : QT (f_X4_fail b t p0 p1 σ) (fun s => ¬ s.1 b 7 = 0) := by
  unfold f_X4_fail f_X4_fail_29
  refine QT.ite (fun _ => QT.ite (fun _ => QT.ret ?_) (fun _ => QT.ite (fun _ => QT.ret ?_) (fun _ => QT.ret ?_))) (fun h => QT.ret h)
  · rw [stI_at, upN (by omega), stI_at, upN (by omega), stI_at, upA rfl]
    exact h0
  · rw [stI_at, upN (by omega), stI_at, upN (by omega), stI_at, upA rfl]
    exact h0
  · rw [stI_at, upN (by omega), stI_at, upA rfl]
    exact h0
theorem KRA.nz {b t : Nat} {σ s : ST} (h : KRA b t σ s) (h7 : ¬ σ.1 b 7 = 0) : ¬ s.1 b 7 = 0 := h.2.2.2.2.2 h7
theorem rd_byte {b t m : Nat} (hb : BT b t) {σ τ : ST} (h : RPS b m σ τ) : QT (f_X4_takeByte b t σ) (fun q => QT (f_X11_nextByte τ) (fun w => ¬ q.2.1 b 7 = 0 ∧ w.1.toInt < 0 ∨ (w.1 = q.1 ∧ 0 ≤ q.1.toInt ∧ q.1.toInt ≤ 255) ∧ RPS b m q.2 w.2 ∧ PMA b σ q.2 ∧ PMS τ w.2)) := by
  obtain ⟨⟨h7, h4, hm⟩, ⟨h5, h6⟩, ⟨hf, p0, p1, p2⟩, hB⟩ := h
  have hb' := hb
  unfold BT at hb'
  have l0 := li_0
  have l1 := li_1
  have lm := li_m1
  have l400 := li_400
  have l1600 := li_1600'
  unfold f_X4_takeByte f_X11_nextByte
  rw [if_pos h7]
  obtain ⟨k, hk⟩ : ∃ k : Nat, (τ.1 0 64).toInt = k := ⟨_, (Int.toNat_of_nonneg p0).symm⟩
  refine QT.ilt (fun hlt => ?_) (fun hge => ?_)
  · rw [h5, h6] at hlt
    have e4 : (σ.1 b 4 * 400).toInt = 400 * (m : Int) := by
      rw [Int32.mul_comm]
      have := mlE (k := 400) (y := σ.1 b 4) 400 l400 (by omega) (by omega)
      omega
    have h5' : (σ.1 b 5).toInt = k := by rw [h5]; exact hk
    have ea := il_addE (x := σ.1 b 4 * 400) (y := σ.1 b 5) (by omega) (by omega)
    have na : (σ.1 b 4 * 400 + σ.1 b 5).toNatClampNeg = 400 * m + k := nC (by omega)
    have hbyte : f_X1_byteOf (σ.1 b 4) (σ.1 b 5) σ = some ((σ.1 38 (400 * m + k)) &&& 255, σ) := by
      unfold f_X1_byteOf
      rw [if_neg (fun h => by have := il_lt h; omega), if_neg (fun h => by have := il_le h; omega), if_pos ⟨by omega, by omega⟩, na]
    rw [hbyte, sbnd]
    dsimp only
    refine QT.ret ?_
    refine QT.ieq (fun e => by omega) (fun _ => ?_)
    have e1 := il_addE (x := τ.1 0 64) (y := 1) (by omega) (by omega)
    have f1 : ∀ v : Int32, (stI τ 0 64 v).1 0 63 = τ.1 0 63 := fun v => by rw [stI_at, upN (by omega)]
    have f2 : ∀ v : Int32, (stI τ 0 64 v).1 0 64 = v := fun v => by rw [stI_at, upA rfl]
    have f3 : ∀ v : Int32, (stI τ 0 64 v).1 34 = τ.1 34 := fun v => stI_ne (by omega)
    have f4 : ∀ v : Int32, (stI τ 0 64 v).1 0 65 = τ.1 0 65 := fun v => by rw [stI_at, upN (by omega)]
    rw [f1, f2, f3]
    have e2 := il_addE (x := τ.1 0 63) (y := τ.1 0 64 + 1) (by omega) (by omega)
    have e3 := il_subE (x := τ.1 0 63 + (τ.1 0 64 + 1)) (y := 1) (by omega) (by omega)
    have nb : (τ.1 0 63 + (τ.1 0 64 + 1) - 1).toNatClampNeg = 400 * m + k := nC (by omega)
    refine QT.grd (fun _ => QT.ret ?_)
    rw [nb]
    have hk' := hB k (by omega)
    have hr := and255 (σ.1 38 (400 * m + k))
    refine .inr ⟨⟨by dsimp only; rw [hk'], ?_, ?_⟩, ?_, ?_, ?_⟩
    · show 0 ≤ (σ.1 38 (400 * m + k) &&& 255).toInt
      omega
    · show (σ.1 38 (400 * m + k) &&& 255).toInt ≤ 255
      omega
    · have g1 : ∀ v : Int32, ∀ i, i ≠ 5 → (stI σ b 5 v).1 b i = σ.1 b i := fun v i hi => by rw [stI_at, upN hi]
      have g2 : ∀ v : Int32, (stI σ b 5 v).1 b 5 = v := fun v => by rw [stI_at, upA rfl]
      have g3 : ∀ v : Int32, (stI σ b 5 v).1 38 = σ.1 38 := fun v => stI_ne (by omega)
      unfold RPS
      dsimp only
      rw [g1 _ 7 (by omega), g1 _ 4 (by omega), g1 _ 6 (by omega), g2, g3, f1, f2, f3, f4]
      exact ⟨⟨h7, h4, hm⟩, ⟨by rw [h5], h6⟩, ⟨hf, by omega, by omega, p2⟩, hB⟩
    · exact ⟨fun c hc => stI_ne hc, fun i hi => by dsimp only; rw [stI_at, upN hi], rfl⟩
    · exact ⟨fun c hc => stI_ne hc, fun i hi => by dsimp only; rw [stI_at, upN hi], rfl⟩
  · rw [h5, h6] at hge
    refine QT.bnd (a_failed hb 11 (σ.1 b 6) σ (by decide)) (fun s hs => QT.ret ?_)
    refine QT.ieq (fun _ => ?_) (fun e => by omega)
    refine QT.bnd (q_fails 11 (τ.1 0 65) τ) (fun w hw => QT.ret (.inl ⟨hs, ?_⟩))
    dsimp only
    omega
/-- a byte that is asked for behind a failure -/
theorem ad_byte {b t : Nat} (hb : BT b t) {σ : ST} (h : ¬ σ.1 b 7 = 0) : QT (f_X4_takeByte b t σ) (fun q => ¬ q.2.1 b 7 = 0) := fun q e => by
  have k : KRA b t σ q.2 := wr_X4_takeByte (B0 := b) (T0 := t) (s := σ) rfl (KRA.rf hb) q e
  exact k.nz h
theorem ad_num5 {b t : Nat} (hb : BT b t) {σ : ST} (h : ¬ σ.1 b 7 = 0) (n : Nat) (x1 : Int32) (x2 : Int64) (x4 : Int32) : QT (f_X4_takeNumber_5 b t n x1 x2 x4 σ) (fun q => ¬ q.2.1 b 7 = 0) := fun q e => by
  have k : KRA b t σ q.2 := wr_X4_takeNumber_5 (B0 := b) (T0 := t) (s := σ) rfl _ _ _ _ _ (KRA.rf hb) q e
  exact k.nz h
theorem ad_num70 {b t : Nat} {σ : ST} (h : ¬ σ.1 b 7 = 0) (x2 : Int64) : QT (f_X4_takeNumber_70 b t x2 σ) (fun q => ¬ q.2.1 b 7 = 0) := by
  unfold f_X4_takeNumber_70
  exact QT.ite (fun e => absurd e h) (fun _ => QT.ret h)
theorem ad_num38 {b t : Nat} (hb : BT b t) {σ : ST} (h : ¬ σ.1 b 7 = 0) (n : Nat) (x1 : Int32) (x2 : Int64) (x4 x5 : Int32) : QT (f_X4_takeNumber_38 (f_X4_takeNumber_5 b t n) b t x1 x2 x4 x5 σ) (fun q => ¬ q.2.1 b 7 = 0) := by
  unfold f_X4_takeNumber_38
  exact QT.ite (fun _ => ad_num5 hb h _ _ _ _) (fun _ => ad_num70 h _)
theorem rd_num5 {b t m : Nat} (hb : BT b t) (x1 : Int32) : ∀ (n : Nat) (M : Nat) (x2 : Int64) (x4 : Int32) (σ τ : ST), RPS b m σ τ → 0 ≤ x4.toInt → x4.toInt ≤ 9 → QT (f_X4_takeNumber_5 b t n x1 x2 x4 σ) (fun q => QT (f_X11_readsNumber_5 M x1 x2 x4 τ) (fun w => RDO b m σ τ q.2 w.2 w.1 (w.2.2.1 0 70 = q.1))) := by
  have l0 := li_0
  have l1 := li_1
  have l9 := li_9
  have l10 := li_10
  have l128 := li_128
  intro n
  induction n with
  | zero =>
    intro M x2 x4 σ τ _ _ _
    rw [f_X4_takeNumber_5]
    exact QT.none
  | succ n ih =>
    intro M x2 x4 σ τ h h0 h9
    cases M with
    | zero =>
      refine fun q _ => ?_
      rw [f_X11_readsNumber_5]
      exact QT.none
    | succ M =>
      rw [f_X4_takeNumber_5, f_X11_readsNumber_5]
      refine QT.ile (fun h => by omega) (fun _ => ?_)
      refine QT.sw ?_
      refine QT.ile (fun h => by omega) (fun _ => ?_)
      refine QT.sw ?_
      refine QT.bnd2 (rd_byte hb h) (fun q w hqw => ?_)
      rcases hqw with ⟨f1, f2⟩ | ⟨⟨e1, e2, e3⟩, hR, hA, hB⟩
      · have fin : ∀ z : Int64 × ST, ¬ z.2.1 b 7 = 0 → QT (if 0 ≤ w.1 then (if x4 = 9 then (if w.1 ≤ 1 then (f_X11_readsNumber_46 (f_X11_readsNumber_5 M) x1 x2 x4 w.1 w.2) else ((f_X11_fails 12 x1 w.2).bind fun q3 => if q3.1 = 0 ∨ q3.1 = 1 then some (q3.1, q3.2) else none)) else (f_X11_readsNumber_46 (f_X11_readsNumber_5 M) x1 x2 x4 w.1 w.2)) else (some (0, w.2))) (fun v => RDO b m σ τ z.2 v.2 v.1 (v.2.2.1 0 70 = z.1)) := fun z hz => by
          refine QT.ile (fun h => by omega) (fun _ => QT.ret (.inl ⟨hz, rfl⟩))
        refine QT.mono (P := fun z => ¬ z.2.1 b 7 = 0) ?_ fin
        refine QT.ite (fun _ => QT.ite (fun _ => ad_num38 hb f1 _ _ _ _ _) (fun _ => ?_)) (fun _ => ad_num38 hb f1 _ _ _ _ _)
        refine QT.bnd (a_failed hb 12 x1 q.2 (by decide)) (fun s hs => ?_)
        exact ad_num38 hb hs _ _ _ _ _
      · have e127 : (q.1 &&& 127).toInt64 = q.1.toInt64 &&& 127 := by
          rw [Int32.toInt64_and]
          rfl
        have go : x4.toInt ≤ 8 ∨ q.1.toInt ≤ 1 → QT (f_X4_takeNumber_38 (f_X4_takeNumber_5 b t n) b t x1 x2 x4 q.1 q.2) (fun z => QT (f_X11_readsNumber_46 (f_X11_readsNumber_5 M) x1 x2 x4 w.1 w.2) (fun v => RDO b m σ τ z.2 v.2 v.1 (v.2.2.1 0 70 = z.1))) := fun hc => by
          unfold f_X4_takeNumber_38 f_X11_readsNumber_46 f_X4_takeNumber_70
          rw [e1, e127]
          refine QT.ile (fun hle => ?_) (fun hlt => ?_)
          · refine QT.sw ?_
            refine QT.ile (fun _ => ?_) (fun h => by omega)
            refine QT.sw ?_
            have e4 := il_addE (x := x4) (y := 1) (by omega) (by omega)
            exact (ih M _ (x4 + 1) q.2 w.2 hR (by omega) (by omega)).mono2 (fun z v hz => hz.to hA hB.wk)
          · refine QT.ite (fun _ => QT.ret ?_) (fun h => absurd hR.1.1 h)
            refine QT.ile (fun h => by omega) (fun _ => ?_)
            refine QT.lt (fun z ez => QT.ret ?_)
            subst ez
            refine .inr ⟨rfl, hR.l, ⟨hA, hB.wk.l⟩, ?_⟩
            exact stL_at
        refine QT.ieq (fun h9 => ?_) (fun h9 => ?_)
        · refine QT.ile (fun hle => ?_) (fun hgt => ?_)
          · refine QT.sw ?_
            refine QT.ile (fun _ => ?_) (fun h => by rw [e1] at h; omega)
            refine QT.ieq (fun _ => ?_) (fun h => absurd h9 h)
            refine QT.ile (fun _ => ?_) (fun h => by rw [e1] at h; omega)
            refine QT.sw ?_
            exact go (.inr (by omega))
          · refine QT.mono (P := fun z => ¬ z.2.1 b 7 = 0) (QT.bnd (a_failed hb 12 x1 q.2 (by decide)) (fun s hs => ad_num38 hb hs _ _ _ _ _)) (fun z hz => ?_)
            refine QT.ile (fun _ => ?_) (fun h => by rw [e1] at h; omega)
            refine QT.ieq (fun _ => ?_) (fun h => absurd h9 h)
            refine QT.ile (fun h => by rw [e1] at h; omega) (fun _ => ?_)
            exact QT.bnd (q_fails 12 x1 w.2) (fun v hv => QT.grd (fun _ => QT.ret (.inl ⟨hz, hv⟩)))
        · refine QT.sw ?_
          refine QT.ile (fun _ => ?_) (fun h => by rw [e1] at h; omega)
          refine QT.ieq (fun h => absurd h h9) (fun _ => ?_)
          refine QT.sw ?_
          exact go (.inl (by omega))
theorem rd_number {b t m : Nat} (hb : BT b t) (p0 : Int32) (σ τ : ST) (h : RPS b m σ τ) : QT (f_X4_takeNumber b t p0 σ) (fun q => QT (f_X11_readsNumber p0 τ) (fun w => RDO b m σ τ q.2 w.2 w.1 (w.2.2.1 0 70 = q.1))) := by
  have l0 := li_0
  unfold f_X4_takeNumber f_X11_readsNumber
  exact rd_num5 hb p0 FU FU 0 0 σ τ h (by omega) (by omega)
/-- a count: whole, from 0 on -/
theorem rd_count {b t m : Nat} (hb : BT b t) (p0 p1 : Int32) (mx : Int64) (hmx : p1.toInt64 = mx) (σ τ : ST) (h : RPS b m σ τ) : QT (f_X4_takeCount b t p0 p1 σ) (fun q => QT (f_X11_readsInt p0 0 mx τ) (fun w => RDO b m σ τ q.2 w.2 w.1 (q.1 = (w.2.2.1 0 70).toInt32 ∧ 0 ≤ (w.2.2.1 0 70).toInt ∧ (w.2.2.1 0 70).toInt ≤ mx.toInt))) := by
  have l0 := li_0
  unfold f_X4_takeCount f_X11_readsInt
  rw [hmx]
  refine QT.bnd2 (rd_number hb p0 σ τ h) (fun q w hqw => ?_)
  rcases hqw with ⟨f1, f2⟩ | ⟨e0, hR, ⟨hA, hB⟩, e70⟩
  · refine QT.mono (P := fun z => ¬ z.2.1 b 7 = 0) ?_ (fun z hz => ?_)
    · have k26 : ∀ s : ST, ¬ s.1 b 7 = 0 → QT (f_X4_takeCount_26 b t q.1 s) (fun z => ¬ z.2.1 b 7 = 0) := fun s hs => by
        unfold f_X4_takeCount_26
        exact QT.ite (fun e => absurd e hs) (fun _ => QT.ret hs)
      have k19 : QT (f_X4_takeCount_19 b t p0 q.1 q.2) (fun z => ¬ z.2.1 b 7 = 0) := by
        unfold f_X4_takeCount_19
        exact QT.bnd (a_failed hb 12 p0 q.2 (by decide)) (fun s hs => k26 s hs)
      exact QT.ite (fun _ => k19) (fun _ => QT.ite (fun _ => k26 _ f1) (fun _ => k19))
    · refine QT.ite (fun _ => QT.ret (.inl ⟨hz, rfl⟩)) (fun h => absurd f2 h)
  · have bad : QT (f_X4_takeCount_19 b t p0 q.1 q.2) (fun z => ¬ z.2.1 b 7 = 0) := by
      unfold f_X4_takeCount_19 f_X4_takeCount_26
      exact QT.bnd (a_failed hb 12 p0 q.2 (by decide)) (fun s hs => QT.ite (fun e => absurd e hs) (fun _ => QT.ret hs))
    have badB : ∀ z : Int32 × ST, ¬ z.2.1 b 7 = 0 → QT ((f_X11_fails 12 p0 w.2).bind fun q5 => if q5.1 = 0 then (some (0, q5.2)) else (f_X11_readsInt_31 q5.2)) (fun v => RDO b m σ τ z.2 v.2 v.1 (z.1 = (v.2.2.1 0 70).toInt32 ∧ 0 ≤ (v.2.2.1 0 70).toInt ∧ (v.2.2.1 0 70).toInt ≤ mx.toInt)) := fun z hz => QT.bnd (q_fails 12 p0 w.2) (fun v hv => QT.ite (fun _ => QT.ret (.inl ⟨hz, rfl⟩)) (fun h => absurd hv h))
    have ne0 : ¬ w.1 = 0 := by rw [e0]; decide
    have hwi : ∀ Q : Int32 × ST → Option (Int32 × ST), ∀ P : Int32 × ST → Prop, ((lg_cmp q.1 0).toInt < (0 : Int32).toInt → QT (Q (0, w.2)) P) → ((0 : Int32).toInt ≤ (lg_cmp q.1 0).toInt → (0 : Int32).toInt < (lg_cmp q.1 mx).toInt → QT (Q (0, w.2)) P) → ((0 : Int32).toInt ≤ (lg_cmp q.1 0).toInt → (lg_cmp q.1 mx).toInt ≤ (0 : Int32).toInt → QT (Q (1, w.2)) P) → QT ((f_X11_within (w.2.2.1 0 70) 0 mx w.2).bind Q) P := fun Q P h1 h2 h3 => by
      unfold f_X11_within
      rw [e70]
      by_cases c1 : lg_cmp q.1 0 < 0
      · rw [if_pos c1, sbnd]
        exact h1 (il_lt c1)
      · rw [if_neg c1]
        by_cases c2 : 0 < lg_cmp q.1 mx
        · rw [if_pos c2, sbnd]
          exact h2 (il_nlt c1) (il_lt c2)
        · rw [if_neg c2, sbnd]
          exact h3 (il_nlt c1) (il_nlt c2)
    refine QT.ilt (fun c1 => bad.mono (fun z hz => ?_)) (fun c1 => QT.ile (fun c2 => ?_) (fun c2 => bad.mono (fun z hz => ?_)))
    · refine QT.ite (fun h => absurd h ne0) (fun _ => ?_)
      exact hwi _ _ (fun _ => QT.ite (fun _ => badB z hz) (fun h => absurd rfl h)) (fun h => by omega) (fun h => by omega)
    · unfold f_X4_takeCount_26
      refine QT.ite (fun _ => QT.ret ?_) (fun h => absurd hR.1.1 h)
      refine QT.ite (fun h => absurd h ne0) (fun _ => ?_)
      refine hwi _ _ (fun h => by omega) (fun _ h => by omega) (fun _ _ => ?_)
      refine QT.ite (fun h => absurd h one_ne) (fun _ => ?_)
      unfold f_X11_readsInt_31
      refine QT.ret (.inr ⟨rfl, hR, ⟨hA, hB⟩, ?_⟩)
      dsimp only
      rw [e70]
      have g1 := lgc_ge c1
      have g2 := lgc_le c2
      have z0 : (0 : Int64).toInt = 0 := by decide
      exact ⟨rfl, by omega, g2⟩
    · refine QT.ite (fun h => absurd h ne0) (fun _ => ?_)
      exact hwi _ _ (fun h => by omega) (fun _ _ => QT.ite (fun _ => badB z hz) (fun h => absurd rfl h)) (fun _ h => by omega)
/-! texts, reals and flags that are read -/
/-- so many letters, both ways -/
def LTR (i : Nat) (x y : Int64) : Prop := ∃ g : Nat → Nat, GL g i ∧ x.toInt = (n5 i g : Int) ∧ y.toInt = (n27 g i : Int)
theorem LTR.zero : LTR 0 0 0 := ⟨fun _ => 0, fun i hi => by omega, rfl, rfl⟩
theorem LTR.wlt {i : Nat} {x y : Int64} {n : Int32} (h : LTR i x y) (hi : i ≤ 12) (hn : n.toInt = i) : WLT x y n := by
  obtain ⟨g, h1, h2, h3⟩ := h
  exact ⟨i, g, hi, h1, h2, h3, hn⟩
theorem ltr_step {i : Nat} {x y : Int64} {c x5 : Int32} (h : LTR i x y) (hi : i < 12) (h5 : x5.toInt = i) (hc : 97 ≤ c.toInt ∧ c.toInt ≤ 122) : LTR (i + 1) (x ||| (((c - 97) + 1).toInt64 <<< ((5 * x5).toInt64 &&& 63))) (27 * y + c.toInt64 - 96) := by
  obtain ⟨g, hg, e1, e2⟩ := h
  have l1 := li_1
  have l97 := li_97
  have a1 := il_subE (x := c) (y := 97) (by omega) (by omega)
  have a2 := il_addE (x := c - 97) (y := 1) (by omega) (by omega)
  have n5e : x5 = Int32.ofNat i := ofNat_i h5 (by omega)
  obtain ⟨v, hv⟩ : ∃ v : Nat, (v : Int) = c.toInt - 96 := ⟨(c.toInt - 96).toNat, by omega⟩
  obtain ⟨f, hf⟩ : ∃ f : Nat → Nat, f = fun j => if j = i then v else g j := ⟨_, rfl⟩
  have f1 : f i = v := by rw [hf]; exact if_pos rfl
  have f2 : ∀ j, j < i → f j = g j := fun j hj => by rw [hf]; exact if_neg (by omega)
  have hF : GL f (i + 1) := fun j hj => by
    by_cases e : j = i
    · rw [e, f1]
      omega
    · rw [f2 j (by omega)]
      exact hg j (by omega)
  have x5e : n5 i f = n5 i g := n5_ext i f g f2
  have y5e : n27 f i = n27 g i := n27_ext f g i f2
  refine ⟨f, hF, ?_, ?_⟩
  · rw [n5_last, x5e, f1, n5e]
    exact or12 (k := i) e1 (by rw [i64, a2, a1]; omega) (by omega) hi (n5_lt i g hg) (sh12 i hi _)
  · show (27 * y + c.toInt64 - 96).toInt = ((27 * n27 f i + f i : Nat) : Int)
    rw [y5e, f1]
    have hl := n27_lt i g hg
    have p1 : (27 : Nat) ^ i ≤ 27 ^ 11 := Nat.pow_le_pow_right (by omega) (by omega)
    have p2 : (27 : Nat) ^ 11 = 5559060566555523 := by decide
    rw [p2] at p1
    have l27 : (27 : Int64).toInt = 27 := by decide
    have l96 : (96 : Int64).toInt = 96 := by decide
    have c1 : (27 * y).toInt = 27 * (n27 g i : Int) := by
      rw [Int64.toInt_mul, l27, e2]
      exact Int.bmod_eq_of_le (by omega) (by omega)
    have c2 : (27 * y + c.toInt64).toInt = 27 * (n27 g i : Int) + c.toInt := by
      rw [Int64.toInt_add, c1, i64]
      exact Int.bmod_eq_of_le (by omega) (by omega)
    rw [Int64.toInt_sub, c2, l96]
    rw [Int.bmod_eq_of_le (by omega) (by omega)]
    omega
theorem ad_let5 {b t : Nat} (hb : BT b t) {σ : ST} (h : ¬ σ.1 b 7 = 0) (n : Nat) (x1 x2 : Int32) (x3 : Int64) (x5 : Int32) : QT (f_X4_takeLetters_5 b t n x1 x2 x3 x5 σ) (fun q => ¬ q.2.1 b 7 = 0) := fun q e => by
  have k : KRA b t σ q.2 := wr_X4_takeLetters_5 (B0 := b) (T0 := t) (s := σ) rfl _ _ _ _ _ _ (KRA.rf hb) q e
  exact k.nz h
theorem ad_let45 {b t : Nat} (hb : BT b t) {σ : ST} (h : ¬ σ.1 b 7 = 0) (n : Nat) (x1 x2 : Int32) (x3 : Int64) (x5 x6 : Int32) : QT (f_X4_takeLetters_45 (f_X4_takeLetters_5 b t n) b t x1 x2 x3 x5 x6 σ) (fun q => ¬ q.2.1 b 7 = 0) := by
  unfold f_X4_takeLetters_45
  exact QT.lt (fun z _ => ad_let5 hb h _ _ _ _ _)
theorem ad_let38 {b t : Nat} (hb : BT b t) (σ : ST) (n : Nat) (x1 x2 : Int32) (x3 : Int64) (x5 x6 : Int32) : QT (f_X4_takeLetters_38 (f_X4_takeLetters_5 b t n) b t x1 x2 x3 x5 x6 σ) (fun q => ¬ q.2.1 b 7 = 0) := by
  unfold f_X4_takeLetters_38
  exact QT.bnd (a_failed hb 12 x1 σ (by decide)) (fun s hs => ad_let45 hb hs _ _ _ _ _ _)
theorem rd_let5 {b t m : Nat} (hb : BT b t) (x1 x2 : Int32) (h2 : 0 ≤ x2.toInt ∧ x2.toInt ≤ 12) : ∀ (n M i : Nat) (x3 : Int64) (x5 : Int32) (σ τ : ST), RPS b m σ τ → x5.toInt = i → LTR i x3 (τ.2.1 0 71) → (i : Int) ≤ x2.toInt → QT (f_X4_takeLetters_5 b t n x1 x2 x3 x5 σ) (fun q => QT (f_X11_readsText_32 M x1 x2 x5 τ) (fun w => RDO b m σ τ q.2 w.2 w.1 (w.2.1 0 72 = τ.1 0 72 ∧ ∃ k : Nat, (k : Int) = x2.toInt ∧ LTR k q.1 (w.2.2.1 0 71)))) := by
  have l0 := li_0
  have l1 := li_1
  have l97 := li_97
  have l122 := li_122
  intro n
  induction n with
  | zero =>
    intro M i x3 x5 σ τ _ _ _ _
    rw [f_X4_takeLetters_5]
    exact QT.none
  | succ n ih =>
    intro M i x3 x5 σ τ h h5 hL hi
    cases M with
    | zero =>
      refine fun q _ => ?_
      rw [f_X11_readsText_32]
      exact QT.none
    | succ M =>
      rw [f_X4_takeLetters_5, f_X11_readsText_32]
      refine QT.ile (fun hle => QT.ret ?_) (fun hlt => ?_)
      · refine QT.ile (fun _ => QT.ret (.inr ⟨rfl, h, ⟨PMA.rf, PMB.rf⟩, rfl, i, by omega, hL⟩)) (fun h => by omega)
      · refine QT.ite (fun _ => ?_) (fun h9 => absurd h.1.1 h9)
        refine QT.sw ?_
        refine QT.ile (fun h => by omega) (fun _ => ?_)
        refine QT.sw ?_
        refine QT.bnd2 (rd_byte hb h) (fun q w hqw => ?_)
        have z97 : (97 : Int64).toInt = 97 := by decide
        have z122 : (122 : Int64).toInt = 122 := by decide
        rcases hqw with ⟨f1, f2⟩ | ⟨⟨e1, e2, e3⟩, hR, hA, hB⟩
        · refine QT.mono (P := fun z => ¬ z.2.1 b 7 = 0) ?_ (fun z hz => ?_)
          · exact QT.ite (fun _ => ad_let38 hb _ _ _ _ _ _ _) (fun _ => QT.ite (fun _ => ad_let45 hb f1 _ _ _ _ _ _) (fun _ => ad_let38 hb _ _ _ _ _ _ _))
          · exact QT.ile (fun h => by omega) (fun _ => QT.ret (.inl ⟨hz, rfl⟩))
        · have bad : ¬ (97 ≤ q.1.toInt ∧ q.1.toInt ≤ 122) → QT (f_X4_takeLetters_38 (f_X4_takeLetters_5 b t n) b t x1 x2 x3 x5 q.1 q.2) (fun z => QT (if 0 ≤ w.1 then ((f_X11_isLetter w.1 w.2).bind fun q3 => if q3.1 = 0 then ((f_X11_fails 12 x1 q3.2).bind fun q5 => if q5.1 = 0 ∨ q5.1 = 1 then some (q5.1, q5.2) else none) else (f_X11_readsText_32 M x1 x2 (x5 + 1) (stL q3.2 0 71 (((27 * (q3.2.2.1 0 71)) + (w.1.toInt64)) - 96)))) else (some (0, w.2))) (fun v => RDO b m σ τ z.2 v.2 v.1 (v.2.1 0 72 = τ.1 0 72 ∧ ∃ k : Nat, (k : Int) = x2.toInt ∧ LTR k z.1 (v.2.2.1 0 71)))) := fun hn => by
            refine (ad_let38 hb _ _ _ _ _ _ _).mono (fun z hz => ?_)
            refine QT.ile (fun _ => ?_) (fun _ => QT.ret (.inl ⟨hz, rfl⟩))
            unfold f_X11_isLetter
            refine QT.bnd (Q := fun q3 : Int32 × ST => q3.1.toInt = 0) ?_ (fun q3 h3 => ?_)
            · refine QT.bndR (b_within w.1.toInt64 97 122 w.2) (fun v hv => QT.grd (fun _ => QT.ret ?_))
              rw [z97, z122, i64, e1] at hv
              rcases hv with hv | hv
              · exact hv.1
              · exact absurd hv.2 hn
            · refine QT.ieq (fun _ => ?_) (fun h => by omega)
              exact QT.bnd (q_fails 12 x1 q3.2) (fun v hv => QT.grd (fun _ => QT.ret (.inl ⟨hz, hv⟩)))
          refine QT.ilt (fun h => bad (by omega)) (fun hge => ?_)
          refine QT.ile (fun hle => ?_) (fun h => bad (by omega))
          refine QT.sw ?_
          refine QT.ile (fun _ => ?_) (fun h => by rw [e1] at h; omega)
          unfold f_X11_isLetter
          refine QT.bnd (Q := fun q3 : Int32 × ST => q3.1.toInt = 1 ∧ q3.2 = w.2) ?_ (fun q3 h3 => ?_)
          · refine QT.bndR (b_within w.1.toInt64 97 122 w.2) (fun v hv => QT.grd (fun _ => QT.ret ⟨?_, rfl⟩))
            rw [z97, z122, i64, e1] at hv
            rcases hv with hv | hv
            · exact absurd ⟨by omega, by omega⟩ hv.2
            · exact hv.1
          · refine QT.ieq (fun h => by omega) (fun _ => ?_)
            refine QT.sw ?_
            rw [h3.2, e1]
            unfold f_X4_takeLetters_45
            refine QT.lt (fun z ez => ?_)
            subst ez
            have e5 := il_addE (x := x5) (y := 1) (by omega) (by omega)
            have e71 : w.2.2.1 0 71 = τ.2.1 0 71 := by rw [hB.2.2]
            have hs := ltr_step (x5 := x5) (c := q.1) hL (by omega) h5 ⟨by omega, by omega⟩
            refine (ih M (i + 1) _ (x5 + 1) q.2 _ hR.l (by omega) ?_ (by omega)).mono2 (fun z v hz => ?_)
            · rw [stL_at, e71]
              exact hs
            · rcases hz with hz | ⟨z1, z2, ⟨z3, z4⟩, z5, z6⟩
              · exact .inl hz
              · exact .inr ⟨z1, z2, ⟨hA.trans z3, hB.wk.l.trans z4⟩, z5.trans (hB.2.1 72 (by omega)), z6⟩
/-- a text: how many letters, and they -/
theorem rd_text {b t m : Nat} (hb : BT b t) (p0 : Int32) (σ τ : ST) (h : RPS b m σ τ) : QT ((f_X4_takeCount b t p0 12 σ).bind fun q24 => (f_X4_takeLetters b t p0 q24.1 q24.2).bind fun q26 => some ((q24.1, q26.1), q26.2)) (fun q => QT (f_X11_readsText p0 τ) (fun w => RDO b m σ τ q.2 w.2 w.1 (WLT q.1.2 (w.2.2.1 0 71) q.1.1 ∧ w.2.1 0 72 = q.1.1))) := by
  have l0 := li_0
  have z12 : (12 : Int32).toInt64 = 12 := by decide
  have z12' : (12 : Int64).toInt = 12 := by decide
  unfold f_X11_readsText
  refine QT.bnd2 (rd_count hb p0 12 12 z12 σ τ h) (fun q w hqw => ?_)
  rcases hqw with ⟨f1, f2⟩ | ⟨e0, hR, ⟨hA, hB⟩, e1, e2, e3⟩
  · unfold f_X4_takeLetters
    refine QT.bnd (ad_let5 hb f1 _ _ _ _ _) (fun z hz => QT.ret ?_)
    exact QT.ite (fun _ => QT.ret (.inl ⟨hz, rfl⟩)) (fun h => absurd f2 h)
  · have ei : q.1.toInt = (w.2.2.1 0 70).toInt := by
      rw [e1]
      show (w.2.2.1 0 70).toInt32.toInt = _
      rw [Int64.toInt_toInt32]
      exact Int.bmod_eq_of_le (by omega) (by omega)
    refine QT.sw ?_
    refine QT.ite (fun h => absurd (h.symm.trans e0) (by decide)) (fun _ => ?_)
    refine QT.sw ?_
    rw [← e1]
    have hst : ∀ z : Int32 × ST, z = z := fun _ => rfl
    unfold f_X4_takeLetters
    obtain ⟨τ1, hτ1⟩ : ∃ τ1, τ1 = stI (stL w.2 0 71 0) 0 72 q.1 := ⟨_, rfl⟩
    rw [← hτ1]
    have hR1 : RPS b m q.2 τ1 := by rw [hτ1]; exact hR.l.i72
    have e71 : τ1.2.1 0 71 = 0 := by
      rw [hτ1]
      exact stL_at
    have e72 : τ1.1 0 72 = q.1 := by rw [hτ1, stI_at, upA rfl]
    have hB1 : PMB τ τ1 := by rw [hτ1]; exact hB.l.i72
    refine QT.sw ?_
    refine QT.mono (P := fun w' => QT (f_X4_takeLetters_5 b t FU p0 q.1 0 0 q.2) (fun z => RDO b m q.2 τ1 z.2 w'.2 w'.1 (w'.2.1 0 72 = τ1.1 0 72 ∧ ∃ k : Nat, (k : Int) = q.1.toInt ∧ LTR k z.1 (w'.2.2.1 0 71)))) (QT.sw (rd_let5 hb p0 q.1 ⟨by omega, by omega⟩ FU FU 0 0 0 q.2 τ1 hR1 l0 (by rw [e71]; exact LTR.zero) (by omega))) (fun w' hw' => ?_)
    refine QT.bnd hw' (fun z hz => QT.ret ?_)
    rcases hz with hz | ⟨z1, z2, ⟨z3, z4⟩, z5, k, z6, z7⟩
    · exact .inl hz
    · exact .inr ⟨z1, z2, ⟨hA.trans z3, hB1.trans z4⟩, z7.wlt (by omega) (show q.1.toInt = (k : Int) by omega), z5.trans e72⟩
/-! reals -/
theorem nan_abs (x : Int64) : (x &&& 9223372036854775807).toInt = ((x.toBitVec.toNat % 2 ^ 63 : Nat) : Int) := by
  have h1 : (x &&& 9223372036854775807).toBitVec.toNat = x.toBitVec.toNat % 2 ^ 63 := by
    show (x.toBitVec &&& (9223372036854775807 : Int64).toBitVec).toNat = _
    rw [BitVec.toNat_and]
    exact Nat.and_two_pow_sub_one_eq_mod x.toBitVec.toNat 63
  have h2 := Nat.mod_lt x.toBitVec.toNat (show 0 < 2 ^ 63 by decide)
  have h3 : (2 : Nat) ^ 63 = 9223372036854775808 := by decide
  show (x &&& 9223372036854775807).toBitVec.toInt = _
  rw [BitVec.toInt_eq_toNat_of_lt (by rw [h1]; omega), h1]
theorem dtl_nan {x : UInt64} (h : FP.Core.dIsNaN x = true) : DTL x 9221120237041090560 := by
  intro σ
  unfold f_Jxe99ae_doubleToLongBits_ccdee f_Jxe99ae_isNaN_b9ae7
  have e : FP.dcmp x x = none := (FP.Core.dcmp_none x x).mpr (Or.inl ((FP.Core.dIsNaN_iff x).mp h))
  rw [e]
  rfl
theorem dtl_real (x : Int64) {σ : ST} {b t : Nat} : QT (if (lg_cmp (x &&& 9223372036854775807) 9218868437227405312) ≤ 0 then (f_X4_takeReal_44 b t x 0 σ) else (f_X4_takeReal_44 b t x 1 σ)) (fun q => q.2 = σ ∧ DTL x.toUInt64 q.1) := by
  have l0 := li_0
  have l1 := li_1
  have zc : (9218868437227405312 : Int64).toInt = 9218868437227405312 := by decide
  have ht : x.toUInt64.toNat = x.toBitVec.toNat := rfl
  have hb := FP.Core.isNaN_bits x.toUInt64
  rw [ht] at hb
  have ha := nan_abs x
  have hc : (9218868437227405312 : Nat) = 0x7ff0000000000000 := by decide
  unfold f_X4_takeReal_44
  refine QT.ile (fun hle => ?_) (fun hgt => ?_)
  · refine QT.ieq (fun _ => QT.ret ⟨rfl, ?_⟩) (fun h => absurd rfl h)
    have g := lgc_le hle
    rw [ha, zc] at g
    refine dtl_num (fun h => ?_)
    have := hb.mp ((FP.Core.dIsNaN_iff _).mpr h)
    omega
  · refine QT.ieq (fun h => by omega) (fun _ => QT.ret ⟨rfl, ?_⟩)
    have g : (9218868437227405312 : Int) < (x &&& 9223372036854775807).toInt := by
      have k := lgc_ge (x := x &&& 9223372036854775807) (y := 9218868437227405312) (by omega)
      rw [zc] at k
      by_cases e : (x &&& 9223372036854775807).toInt = 9218868437227405312
      · have e' : x &&& 9223372036854775807 = 9218868437227405312 := Int64.toInt_inj.mp (by rw [e, zc])
        have e2 : lg_cmp (x &&& 9223372036854775807) 9218868437227405312 = 0 := by
          rw [lg_cmp_eq]
          exact e'
        rw [e2] at hgt
        omega
      · omega
    rw [ha] at g
    refine dtl_nan (hb.mpr ?_)
    omega
theorem ad_real4 {b t : Nat} (hb : BT b t) {σ : ST} (h : ¬ σ.1 b 7 = 0) (n : Nat) (x1 : Int64) (x3 : Int32) : QT (f_X4_takeReal_4 b t n x1 x3 σ) (fun q => ¬ q.2.1 b 7 = 0) := fun q e => by
  have k : KRA b t σ q.2 := wr_X4_takeReal_4 (B0 := b) (T0 := t) (s := σ) rfl _ _ _ _ (KRA.rf hb) q e
  exact k.nz h
theorem rd_real4 {b t m : Nat} (hb : BT b t) : ∀ (n M : Nat) (x1 : Int64) (x3 : Int32) (σ τ : ST), RPS b m σ τ → x1 = τ.2.1 0 70 → QT (f_X4_takeReal_4 b t n x1 x3 σ) (fun q => QT (f_X11_readsReal_7 M x3 τ) (fun w => RDO b m σ τ q.2 w.2 w.1 (DTL (w.2.2.1 0 70).toUInt64 q.1))) := by
  have l0 := li_0
  intro n
  induction n with
  | zero =>
    intro M x1 x3 σ τ _ _
    rw [f_X4_takeReal_4]
    exact QT.none
  | succ n ih =>
    intro M x1 x3 σ τ h h1
    cases M with
    | zero =>
      refine fun q _ => ?_
      rw [f_X11_readsReal_7]
      exact QT.none
    | succ M =>
      rw [f_X4_takeReal_4, f_X11_readsReal_7]
      refine QT.ile (fun hle => ?_) (fun hlt => ?_)
      · refine (dtl_real x1).mono (fun q hq => ?_)
        refine QT.ile (fun _ => QT.ret (.inr ⟨rfl, ?_, ⟨?_, PMB.rf⟩, ?_⟩)) (fun h => by omega)
        · rw [hq.1]
          exact h
        · rw [hq.1]
          exact PMA.rf
        · dsimp only
          rw [← h1]
          exact hq.2
      · refine QT.sw ?_
        refine QT.ile (fun h => by omega) (fun _ => ?_)
        refine QT.sw ?_
        refine QT.bnd2 (rd_byte hb h) (fun q w hqw => ?_)
        rcases hqw with ⟨f1, f2⟩ | ⟨⟨e1, e2, e3⟩, hR, hA, hB⟩
        · refine (ad_real4 hb f1 _ _ _).mono (fun z hz => ?_)
          exact QT.ile (fun h => by omega) (fun _ => QT.ret (.inl ⟨hz, rfl⟩))
        · refine QT.sw ?_
          refine QT.ile (fun _ => ?_) (fun h => by rw [e1] at h; omega)
          refine QT.sw ?_
          refine (ih M _ (x3 + 1) q.2 _ hR.l ?_).mono2 (fun z v hz => hz.to hA hB.wk.l)
          rw [stL_at, e1, h1, hB.2.2]
theorem rd_real {b t m : Nat} (hb : BT b t) (σ τ : ST) (h : RPS b m σ τ) : QT (f_X4_takeReal b t σ) (fun q => QT (f_X11_readsReal τ) (fun w => RDO b m σ τ q.2 w.2 w.1 (DTL (w.2.2.1 0 70).toUInt64 q.1))) := by
  unfold f_X4_takeReal f_X11_readsReal
  exact (rd_real4 hb FU FU 0 0 σ (stL τ 0 70 0) h.l stL_at.symm).mono2 (fun z v hz => hz.to PMA.rf PMB.rf.l)
/-- a whole number's bits, as a real -/
theorem whole_bits (v : Int64) (σ : ST) : QT (f_X10_bitsOfWhole v σ) (fun q => q.2 = σ ∧ DTL (FP.l2d v) q.1) := by
  have z0 : (0 : Int64).toInt = 0 := by decide
  have l0 := li_0
  unfold f_X10_bitsOfWhole
  refine QT.ilt (fun hlt => ?_) (fun hge => ?_)
  · have hv : v.toInt < 0 := by
      by_cases h : v.toInt < 0
      · exact h
      · have := Int32.le_iff_toInt_le.mp ((lg_cmp_ge v 0).mpr (Int64.le_iff_toInt_le.mpr (by omega)))
        omega
    obtain ⟨c, q, e1, e2, e3, e4⟩ := l2d_fin v (by omega)
    rw [decide_eq_true hv] at e1
    have nn : ¬ FP.Core.val64 (FP.l2d v) = .nan := by
      rw [e1]
      exact fun h => by cases h
    have y1 : FP.Core.val64 (FP.dneg (FP.l2d v)) = .fin false c q := by
      rw [FP.val64_dneg, e1]
      rfl
    have F : FPN (FP.dneg (FP.l2d v)) c q := ⟨y1, e2, by omega, by omega⟩
    have c1 : FP.dneg (FP.l2d v) = FP.Core.dneg (FP.l2d v) := FP.Core.val64_inj F.nn (by rw [y1, FP.Core.val64_dneg, e1]; rfl)
    have ey : FP.dsub FP.dconst0 (FP.l2d v) = FP.dneg (FP.l2d v) := by
      show FP.Core.dsub FP.Core.dconst0 (FP.l2d v) = _
      rw [FP.Core.dsub_eq, ← c1, FP.Core.dadd_comm]
      exact FP.Core.dadd_zero F.nn F.nz
    rw [ey]
    refine QT.grd (fun _ => ?_)
    refine QT.bndR (fp_pos _ σ F ⟨by omega, by omega⟩) (fun w hw => QT.ret ⟨rfl, ?_⟩)
    dsimp only
    have dd : FP.dneg (FP.dneg (FP.l2d v)) = FP.l2d v := (FP.Core.val64_inj nn (by rw [FP.val64_dneg, y1, e1]; rfl)).symm
    rw [hw, ← F.neg_bits, dd]
    exact dtl_num nn
  · have hv := lgc_ge hge
    rw [z0] at hv
    by_cases h0 : v.toInt = 0
    · have e : v = 0 := Int64.toInt_inj.mp (by rw [h0]; rfl)
      rw [e, l2d_0, fp_zero, sbnd]
      dsimp only
      have n0 : ¬ FP.Core.val64 0 = .nan := by decide +kernel
      exact QT.ret ⟨rfl, dtl_num n0⟩
    · obtain ⟨c, q, F, q1, q2⟩ := l2d_pos v (by omega)
      refine QT.bndR (fp_pos _ σ F ⟨by omega, by omega⟩) (fun w hw => QT.ret ⟨rfl, ?_⟩)
      dsimp only
      rw [hw]
      exact dtl_num F.nn
