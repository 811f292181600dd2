/-- the reference's reading: all but its path, its place, what it tells and its nodes -/
def KRB (s σ : ST) : Prop := (∀ c, c ≠ 0 → c ≠ 20 → (c < 23 ∨ 30 < c) → c ≠ 36 → c ≠ 41 → σ.1 c = s.1 c) ∧ (∀ i, i ≠ 46 → i ≠ 57 → i ≠ 64 → i ≠ 66 → i ≠ 67 → i ≠ 68 → i ≠ 72 → σ.1 0 i = s.1 0 i) ∧ (∀ c, c ≠ 0 → c ≠ 21 → c ≠ 22 → σ.2.1 c = s.2.1 c)
theorem KRB.rf {s : ST} : KRB s s := ⟨fun _ _ _ _ _ _ => rfl, fun _ _ _ _ _ _ _ _ => rfl, fun _ _ _ _ => rfl⟩
theorem KRB.trans {s σ u : ST} (h : KRB s σ) (k : KRB σ u) : KRB s u := ⟨fun c a d e f g => (k.1 c a d e f g).trans (h.1 c a d e f g), fun i a b c d e f g => (k.2.1 i a b c d e f g).trans (h.2.1 i a b c d e f g), fun c a d e => (k.2.2 c a d e).trans (h.2.2 c a d e)⟩
theorem KRB.i {s σ : ST} {c i : Nat} {v : Int32} (hc : c = 20 ∨ 23 ≤ c ∧ c ≤ 30 ∨ c = 36 ∨ c = 41 ∨ c = 0 ∧ (i = 46 ∨ i = 57 ∨ i = 64 ∨ i = 66 ∨ i = 67 ∨ i = 68 ∨ i = 72)) (h : KRB s σ) : KRB s (stI σ c i v) := by
  refine ⟨fun d h1 h2 h3 h4 h5 => ?_, fun j a b d e f g k => ?_, h.2.2⟩
  · rw [stI_ne (by omega)]
    exact h.1 d h1 h2 h3 h4 h5
  · by_cases e0 : c = 0
    · subst e0
      rw [stI_at, upN (by omega)]
      exact h.2.1 j a b d e f g k
    · rw [stI_ne (fun h => e0 h.symm)]
      exact h.2.1 j a b d e f g k
theorem KRB.l {s σ : ST} {c i : Nat} {v : Int64} (hc : c = 0 ∨ c = 21 ∨ c = 22) (h : KRB s σ) : KRB s (stL σ c i v) := by
  refine ⟨h.1, h.2.1, fun d h1 h2 h3 => ?_⟩
  rw [stL_ne (by omega)]
  exact h.2.2 d h1 h2 h3
theorem KRB.d {s σ : ST} {c i : Nat} {v : UInt64} (h : KRB s σ) : KRB s (stD σ c i v) := h
theorem wr_X11_fails_36 {s : ST}    : ∀ (n : Nat) (x1 : Int32) (σ : ST), KRB s σ → PF st1 (KRB s) (f_X11_fails_36  n x1 σ) := by
  intro n
  induction n with
  | zero => intro x1 σ h; rw [f_X11_fails_36]; exact PF.none
  | succ n ih =>
    intro x1 σ h
    rw [f_X11_fails_36]
    exact (PF.ite (fun _ => (PF.ret1 h)) (fun _ => (PF.ite (fun _ => (ih _ _ (KRB.i (by omega) h))) (fun _ => PF.none))))
theorem wr_X11_fails_31 {s : ST} {y0 : Int32} {σ : ST}   (h : KRB s σ) : PF st1 (KRB s) (f_X11_fails_31 y0 σ) := by
  unfold f_X11_fails_31
  exact (wr_X11_fails_36  _ _ _ (KRB.i (by omega) h))
theorem wr_X11_fails_23 {s : ST}  {σ : ST}   (h : KRB s σ) : PF st1 (KRB s) (f_X11_fails_23 σ) := by
  unfold f_X11_fails_23
  exact (wr_X11_fails_31  h)
theorem wr_X11_fails {s : ST} {p0 : Int32} {p1 : Int32} {σ : ST}   (h : KRB s σ) : PF st1 (KRB s) (f_X11_fails p0 p1 σ) := by
  unfold f_X11_fails
  exact (PF.ite (fun _ => (wr_X11_fails_23  (KRB.i (by omega) (KRB.i (by omega) h)))) (fun _ => (PF.ite (fun _ => (wr_X11_fails_23  (KRB.i (by omega) (KRB.i (by omega) h)))) (fun _ => (wr_X11_fails_31  (KRB.i (by omega) (KRB.i (by omega) h)))))))
theorem wr_X11_nextByte {s : ST}  {σ : ST}   (h : KRB s σ) : PF st1 (KRB s) (f_X11_nextByte σ) := by
  unfold f_X11_nextByte
  exact (PF.ite (fun _ => (PF.bnd (wr_X11_fails  h) (fun q2 hq2 => (PF.ret1 hq2)))) (fun _ => (PF.ite (fun _ => (PF.ret1 (KRB.i (by omega) h))) (fun _ => PF.none))))
theorem wr_X11_readsNumber_46 {s : ST} {k5 : Int32 → Int64 → Int32 → ST → Option (Int32 × ST)} {x1 : Int32} {x2 : Int64} {x4 : Int32} {x5 : Int32} {σ : ST} (h_k5 : ∀ (x1 : Int32) (x2 : Int64) (x3 : Int32) (σ : ST), KRB s σ → PF st1 (KRB s) (k5 x1 x2 x3 σ))  (h : KRB s σ) : PF st1 (KRB s) (f_X11_readsNumber_46 k5 x1 x2 x4 x5 σ) := by
  unfold f_X11_readsNumber_46
  exact (PF.ite (fun _ => (h_k5 _ _ _ _ h)) (fun _ => (PF.bnd (PF.ret0 (KRB.l (by omega) h)) (fun z1 hz1 => (PF.ret1 hz1)))))
theorem wr_X11_readsNumber_5 {s : ST}    : ∀ (n : Nat) (x1 : Int32) (x2 : Int64) (x3 : Int32) (σ : ST), KRB s σ → PF st1 (KRB s) (f_X11_readsNumber_5  n x1 x2 x3 σ) := by
  intro n
  induction n with
  | zero => intro x1 x2 x3 σ h; rw [f_X11_readsNumber_5]; exact PF.none
  | succ n ih =>
    intro x1 x2 x3 σ h
    rw [f_X11_readsNumber_5]
    exact (PF.ite (fun _ => (PF.ret1 h)) (fun _ => (PF.bnd (wr_X11_nextByte  h) (fun q1 hq1 => (PF.ite (fun _ => (PF.ite (fun _ => (PF.ite (fun _ => (wr_X11_readsNumber_46 ih hq1)) (fun _ => (PF.bnd (wr_X11_fails  hq1) (fun q3 hq3 => (PF.ite (fun _ => (PF.ret1 hq3)) (fun _ => PF.none))))))) (fun _ => (wr_X11_readsNumber_46 ih hq1)))) (fun _ => (PF.ret1 hq1)))))))
theorem wr_X11_readsNumber {s : ST} {p0 : Int32} {σ : ST}   (h : KRB s σ) : PF st1 (KRB s) (f_X11_readsNumber p0 σ) := by
  unfold f_X11_readsNumber
  exact (wr_X11_readsNumber_5  _ _ _ _ _ h)
theorem wr_X11_within {s : ST} {p0 : Int64} {p1 : Int64} {p2 : Int64} {σ : ST}   (h : KRB s σ) : PF st1 (KRB s) (f_X11_within p0 p1 p2 σ) := by
  unfold f_X11_within
  exact (PF.ite (fun _ => (PF.ret1 h)) (fun _ => (PF.ite (fun _ => (PF.ret1 h)) (fun _ => (PF.ret1 h)))))
theorem wr_X11_readsInt_31 {s : ST}  {σ : ST}   (h : KRB s σ) : PF st1 (KRB s) (f_X11_readsInt_31 σ) := by
  unfold f_X11_readsInt_31
  exact (PF.ret1 h)
theorem wr_X11_readsInt {s : ST} {p0 : Int32} {p1 : Int64} {p2 : Int64} {σ : ST}   (h : KRB s σ) : PF st1 (KRB s) (f_X11_readsInt p0 p1 p2 σ) := by
  unfold f_X11_readsInt
  exact (PF.bnd (wr_X11_readsNumber  h) (fun q1 hq1 => (PF.ite (fun _ => (PF.ret1 hq1)) (fun _ => (PF.bnd (wr_X11_within  hq1) (fun q3 hq3 => (PF.ite (fun _ => (PF.bnd (wr_X11_fails  hq3) (fun q5 hq5 => (PF.ite (fun _ => (PF.ret1 hq5)) (fun _ => (wr_X11_readsInt_31  hq5)))))) (fun _ => (wr_X11_readsInt_31  hq3)))))))))
theorem wr_X11_enters {s : ST} {p0 : Int32} {σ : ST}   (h : KRB s σ) : PF st0 (KRB s) (f_X11_enters p0 σ) := by
  unfold f_X11_enters
  exact (PF.ite (fun _ => (PF.bnd (PF.ret0 (KRB.i (by omega) (KRB.i (by omega) h))) (fun z2 hz2 => (PF.ret0 hz2)))) (fun _ => PF.none))
theorem wr_X11_reads_96 {s : ST} {r_X11_reads : Int32 → Int32 → Int32 → Int32 → Int32 → ST → Option (Int32 × ST)} {r_X11_readsItems : Int32 → Int32 → Int32 → Int32 → ST → Option (Int32 × ST)} {r_X11_readsRecord : Int32 → Int32 → Int32 → Int32 → ST → Option (Int32 × ST)} {x2 : Int32} {x3 : Int32} {x4 : Int32} {x5 : Int32} {x7 : Int32} {x8 : Int32} {σ : ST} (h_r_X11_reads : ∀ (x1 : Int32) (x2 : Int32) (x3 : Int32) (x4 : Int32) (x5 : Int32) (σ : ST), KRB s σ → PF st1 (KRB s) (r_X11_reads x1 x2 x3 x4 x5 σ)) (h_r_X11_readsItems : ∀ (x1 : Int32) (x2 : Int32) (x3 : Int32) (x4 : Int32) (σ : ST), KRB s σ → PF st1 (KRB s) (r_X11_readsItems x1 x2 x3 x4 σ)) (h_r_X11_readsRecord : ∀ (x1 : Int32) (x2 : Int32) (x3 : Int32) (x4 : Int32) (σ : ST), KRB s σ → PF st1 (KRB s) (r_X11_readsRecord x1 x2 x3 x4 σ))  (h : KRB s σ) : PF st1 (KRB s) (f_X11_reads_96 r_X11_reads r_X11_readsItems r_X11_readsRecord x2 x3 x4 x5 x7 x8 σ) := by
  unfold f_X11_reads_96
  exact (PF.bnd (wr_X11_enters  h) (fun q1 hq1 => (PF.bnd (h_r_X11_reads _ _ _ _ _ _ hq1) (fun q3 hq3 => (PF.ite (fun _ => (PF.ret1 (KRB.i (by omega) hq3))) (fun _ => PF.none))))))
theorem wr_X11_chosen_69 {s : ST} {r_X11_chosen : Int32 → Int32 → ST → Option (Int32 × ST)} {r_X11_match : Int32 → Int32 → ST → Option (Int32 × ST)} {k5 : Int32 → Int32 → Int32 → Int32 → ST → Option (Int32 × ST)} {x1 : Int32} {x2 : Int32} {x3 : Int32} {x4 : Int32} {σ : ST} (h_r_X11_chosen : ∀ (x1 : Int32) (x2 : Int32) (σ : ST), KRB s σ → PF st1 (KRB s) (r_X11_chosen x1 x2 σ)) (h_r_X11_match : ∀ (x1 : Int32) (x2 : Int32) (σ : ST), KRB s σ → PF st1 (KRB s) (r_X11_match x1 x2 σ)) (h_k5 : ∀ (x1 : Int32) (x2 : Int32) (x3 : Int32) (x4 : Int32) (σ : ST), KRB s σ → PF st1 (KRB s) (k5 x1 x2 x3 x4 σ))  (h : KRB s σ) : PF st1 (KRB s) (f_X11_chosen_69 r_X11_chosen r_X11_match k5 x1 x2 x3 x4 σ) := by
  unfold f_X11_chosen_69
  exact (h_k5 _ _ _ _ _ h)
theorem wr_X11_chosen_68 {s : ST} {r_X11_chosen : Int32 → Int32 → ST → Option (Int32 × ST)} {r_X11_match : Int32 → Int32 → ST → Option (Int32 × ST)} {k5 : Int32 → Int32 → Int32 → Int32 → ST → Option (Int32 × ST)} {x1 : Int32} {x2 : Int32} {x4 : Int32} {y0 : Int32} {σ : ST} (h_r_X11_chosen : ∀ (x1 : Int32) (x2 : Int32) (σ : ST), KRB s σ → PF st1 (KRB s) (r_X11_chosen x1 x2 σ)) (h_r_X11_match : ∀ (x1 : Int32) (x2 : Int32) (σ : ST), KRB s σ → PF st1 (KRB s) (r_X11_match x1 x2 σ)) (h_k5 : ∀ (x1 : Int32) (x2 : Int32) (x3 : Int32) (x4 : Int32) (σ : ST), KRB s σ → PF st1 (KRB s) (k5 x1 x2 x3 x4 σ))  (h : KRB s σ) : PF st1 (KRB s) (f_X11_chosen_68 r_X11_chosen r_X11_match k5 x1 x2 x4 y0 σ) := by
  unfold f_X11_chosen_68
  exact (wr_X11_chosen_69 h_r_X11_chosen h_r_X11_match h_k5 h)
theorem wr_X11_chosen_5 {s : ST} {r_X11_chosen : Int32 → Int32 → ST → Option (Int32 × ST)} {r_X11_match : Int32 → Int32 → ST → Option (Int32 × ST)} (h_r_X11_chosen : ∀ (x1 : Int32) (x2 : Int32) (σ : ST), KRB s σ → PF st1 (KRB s) (r_X11_chosen x1 x2 σ)) (h_r_X11_match : ∀ (x1 : Int32) (x2 : Int32) (σ : ST), KRB s σ → PF st1 (KRB s) (r_X11_match x1 x2 σ))  : ∀ (n : Nat) (x1 : Int32) (x2 : Int32) (x3 : Int32) (x4 : Int32) (σ : ST), KRB s σ → PF st1 (KRB s) (f_X11_chosen_5 r_X11_chosen r_X11_match n x1 x2 x3 x4 σ) := by
  intro n
  induction n with
  | zero => intro x1 x2 x3 x4 σ h; rw [f_X11_chosen_5]; exact PF.none
  | succ n ih =>
    intro x1 x2 x3 x4 σ h
    rw [f_X11_chosen_5]
    exact (PF.ite (fun _ => (PF.ite (fun _ => (PF.ret1 h)) (fun _ => (PF.ite (fun _ => (PF.bnd (h_r_X11_match _ _ _ h) (fun q3 hq3 => (PF.ite (fun _ => (wr_X11_chosen_69 h_r_X11_chosen h_r_X11_match ih hq3)) (fun _ => (PF.ite (fun _ => (PF.ite (fun _ => (PF.ite (fun _ => (PF.ret1 hq3)) (fun _ => (PF.ite (fun _ => (wr_X11_chosen_68 h_r_X11_chosen h_r_X11_match ih hq3)) (fun _ => (wr_X11_chosen_68 h_r_X11_chosen h_r_X11_match ih hq3)))))) (fun _ => PF.none))) (fun _ => PF.none))))))) (fun _ => PF.none))))) (fun _ => PF.none))
theorem wr_X11_chosen {s : ST} {r_X11_chosen : Int32 → Int32 → ST → Option (Int32 × ST)} {r_X11_match : Int32 → Int32 → ST → Option (Int32 × ST)} {p0 : Int32} {p1 : Int32} {σ : ST} (h_r_X11_chosen : ∀ (x1 : Int32) (x2 : Int32) (σ : ST), KRB s σ → PF st1 (KRB s) (r_X11_chosen x1 x2 σ)) (h_r_X11_match : ∀ (x1 : Int32) (x2 : Int32) (σ : ST), KRB s σ → PF st1 (KRB s) (r_X11_match x1 x2 σ))  (h : KRB s σ) : PF st1 (KRB s) (f_X11_chosen r_X11_chosen r_X11_match p0 p1 σ) := by
  unfold f_X11_chosen
  exact (wr_X11_chosen_5 h_r_X11_chosen h_r_X11_match _ _ _ _ _ _ h)
theorem wr_X11_match_55 {s : ST} {r_X11_chosen : Int32 → Int32 → ST → Option (Int32 × ST)} {r_X11_match : Int32 → Int32 → ST → Option (Int32 × ST)} {k16 : Int32 → Int32 → Int32 → Int32 → ST → Option (Int32 × ST)} {x1 : Int32} {x2 : Int32} {x4 : Int32} {y0 : Int32} {σ : ST} (h_r_X11_chosen : ∀ (x1 : Int32) (x2 : Int32) (σ : ST), KRB s σ → PF st1 (KRB s) (r_X11_chosen x1 x2 σ)) (h_r_X11_match : ∀ (x1 : Int32) (x2 : Int32) (σ : ST), KRB s σ → PF st1 (KRB s) (r_X11_match x1 x2 σ)) (h_k16 : ∀ (x1 : Int32) (x2 : Int32) (x3 : Int32) (x4 : Int32) (σ : ST), KRB s σ → PF st1 (KRB s) (k16 x1 x2 x3 x4 σ))  (h : KRB s σ) : PF st1 (KRB s) (f_X11_match_55 r_X11_chosen r_X11_match k16 x1 x2 x4 y0 σ) := by
  unfold f_X11_match_55
  exact (h_k16 _ _ _ _ _ h)
theorem wr_X11_match_50 {s : ST} {r_X11_chosen : Int32 → Int32 → ST → Option (Int32 × ST)} {r_X11_match : Int32 → Int32 → ST → Option (Int32 × ST)} {k16 : Int32 → Int32 → Int32 → Int32 → ST → Option (Int32 × ST)} {x1 : Int32} {x2 : Int32} {x4 : Int32} {σ : ST} (h_r_X11_chosen : ∀ (x1 : Int32) (x2 : Int32) (σ : ST), KRB s σ → PF st1 (KRB s) (r_X11_chosen x1 x2 σ)) (h_r_X11_match : ∀ (x1 : Int32) (x2 : Int32) (σ : ST), KRB s σ → PF st1 (KRB s) (r_X11_match x1 x2 σ)) (h_k16 : ∀ (x1 : Int32) (x2 : Int32) (x3 : Int32) (x4 : Int32) (σ : ST), KRB s σ → PF st1 (KRB s) (k16 x1 x2 x3 x4 σ))  (h : KRB s σ) : PF st1 (KRB s) (f_X11_match_50 r_X11_chosen r_X11_match k16 x1 x2 x4 σ) := by
  unfold f_X11_match_50
  exact (wr_X11_match_55 h_r_X11_chosen h_r_X11_match h_k16 h)
theorem wr_X11_match_16 {s : ST} {r_X11_chosen : Int32 → Int32 → ST → Option (Int32 × ST)} {r_X11_match : Int32 → Int32 → ST → Option (Int32 × ST)} (h_r_X11_chosen : ∀ (x1 : Int32) (x2 : Int32) (σ : ST), KRB s σ → PF st1 (KRB s) (r_X11_chosen x1 x2 σ)) (h_r_X11_match : ∀ (x1 : Int32) (x2 : Int32) (σ : ST), KRB s σ → PF st1 (KRB s) (r_X11_match x1 x2 σ))  : ∀ (n : Nat) (x1 : Int32) (x2 : Int32) (x3 : Int32) (x4 : Int32) (σ : ST), KRB s σ → PF st1 (KRB s) (f_X11_match_16 r_X11_chosen r_X11_match n x1 x2 x3 x4 σ) := by
  intro n
  induction n with
  | zero => intro x1 x2 x3 x4 σ h; rw [f_X11_match_16]; exact PF.none
  | succ n ih =>
    intro x1 x2 x3 x4 σ h
    rw [f_X11_match_16]
    exact (PF.ite (fun _ => (PF.ite (fun _ => (PF.ite (fun _ => (PF.ret1 h)) (fun _ => PF.none))) (fun _ => (PF.ite (fun _ => (PF.ite (fun _ => (PF.bnd (h_r_X11_match _ _ _ h) (fun q3 hq3 => (PF.ite (fun _ => (wr_X11_match_55 h_r_X11_chosen h_r_X11_match ih hq3)) (fun _ => (wr_X11_match_50 h_r_X11_chosen h_r_X11_match ih hq3)))))) (fun _ => PF.none))) (fun _ => (wr_X11_match_50 h_r_X11_chosen h_r_X11_match ih h)))))) (fun _ => PF.none))
theorem wr_X11_match_204 {s : ST} {r_X11_chosen : Int32 → Int32 → ST → Option (Int32 × ST)} {r_X11_match : Int32 → Int32 → ST → Option (Int32 × ST)} {σ : ST} (h_r_X11_chosen : ∀ (x1 : Int32) (x2 : Int32) (σ : ST), KRB s σ → PF st1 (KRB s) (r_X11_chosen x1 x2 σ)) (h_r_X11_match : ∀ (x1 : Int32) (x2 : Int32) (σ : ST), KRB s σ → PF st1 (KRB s) (r_X11_match x1 x2 σ))  (h : KRB s σ) : PF st1 (KRB s) (f_X11_match_204 r_X11_chosen r_X11_match σ) := by
  unfold f_X11_match_204
  exact (PF.ret1 h)
theorem wr_X11_match_193 {s : ST} {r_X11_chosen : Int32 → Int32 → ST → Option (Int32 × ST)} {r_X11_match : Int32 → Int32 → ST → Option (Int32 × ST)} {x3 : Int32} {x4 : Int32} {σ : ST} (h_r_X11_chosen : ∀ (x1 : Int32) (x2 : Int32) (σ : ST), KRB s σ → PF st1 (KRB s) (r_X11_chosen x1 x2 σ)) (h_r_X11_match : ∀ (x1 : Int32) (x2 : Int32) (σ : ST), KRB s σ → PF st1 (KRB s) (r_X11_match x1 x2 σ))  (h : KRB s σ) : PF st1 (KRB s) (f_X11_match_193 r_X11_chosen r_X11_match x3 x4 σ) := by
  unfold f_X11_match_193
  exact (PF.ite (fun _ => (PF.ite (fun _ => (wr_X11_match_204 h_r_X11_chosen h_r_X11_match h)) (fun _ => (PF.ret1 h)))) (fun _ => (PF.ret1 h)))
theorem wr_X11_match_170 {s : ST} {r_X11_chosen : Int32 → Int32 → ST → Option (Int32 × ST)} {r_X11_match : Int32 → Int32 → ST → Option (Int32 × ST)} {x3 : Int32} {x4 : Int32} {σ : ST} (h_r_X11_chosen : ∀ (x1 : Int32) (x2 : Int32) (σ : ST), KRB s σ → PF st1 (KRB s) (r_X11_chosen x1 x2 σ)) (h_r_X11_match : ∀ (x1 : Int32) (x2 : Int32) (σ : ST), KRB s σ → PF st1 (KRB s) (r_X11_match x1 x2 σ))  (h : KRB s σ) : PF st1 (KRB s) (f_X11_match_170 r_X11_chosen r_X11_match x3 x4 σ) := by
  unfold f_X11_match_170
  exact (PF.ite (fun _ => (wr_X11_match_204 h_r_X11_chosen h_r_X11_match h)) (fun _ => (PF.ite (fun _ => (PF.ite (fun _ => (wr_X11_match_204 h_r_X11_chosen h_r_X11_match h)) (fun _ => (PF.ite (fun _ => (wr_X11_match_204 h_r_X11_chosen h_r_X11_match h)) (fun _ => (wr_X11_match_193 h_r_X11_chosen h_r_X11_match h)))))) (fun _ => (wr_X11_match_193 h_r_X11_chosen h_r_X11_match h)))))
theorem wr_X11_match_135 {s : ST} {r_X11_chosen : Int32 → Int32 → ST → Option (Int32 × ST)} {r_X11_match : Int32 → Int32 → ST → Option (Int32 × ST)} {x1 : Int32} {x2 : Int32} {x3 : Int32} {x4 : Int32} {σ : ST} (h_r_X11_chosen : ∀ (x1 : Int32) (x2 : Int32) (σ : ST), KRB s σ → PF st1 (KRB s) (r_X11_chosen x1 x2 σ)) (h_r_X11_match : ∀ (x1 : Int32) (x2 : Int32) (σ : ST), KRB s σ → PF st1 (KRB s) (r_X11_match x1 x2 σ))  (h : KRB s σ) : PF st1 (KRB s) (f_X11_match_135 r_X11_chosen r_X11_match x1 x2 x3 x4 σ) := by
  unfold f_X11_match_135
  exact (PF.ite (fun _ => (PF.ite (fun _ => (PF.ite (fun _ => (PF.ite (fun _ => (PF.ite (fun _ => (PF.ite (fun _ => (PF.ret1 h)) (fun _ => PF.none))) (fun _ => PF.none))) (fun _ => PF.none))) (fun _ => PF.none))) (fun _ => (wr_X11_match_170 h_r_X11_chosen h_r_X11_match h)))) (fun _ => (wr_X11_match_170 h_r_X11_chosen h_r_X11_match h)))
theorem wr_X11_match {s : ST} {r_X11_chosen : Int32 → Int32 → ST → Option (Int32 × ST)} {r_X11_match : Int32 → Int32 → ST → Option (Int32 × ST)} {p0 : Int32} {p1 : Int32} {σ : ST} (h_r_X11_chosen : ∀ (x1 : Int32) (x2 : Int32) (σ : ST), KRB s σ → PF st1 (KRB s) (r_X11_chosen x1 x2 σ)) (h_r_X11_match : ∀ (x1 : Int32) (x2 : Int32) (σ : ST), KRB s σ → PF st1 (KRB s) (r_X11_match x1 x2 σ))  (h : KRB s σ) : PF st1 (KRB s) (f_X11_match r_X11_chosen r_X11_match p0 p1 σ) := by
  unfold f_X11_match
  exact (PF.ite (fun _ => (PF.ite (fun _ => (wr_X11_match_16 h_r_X11_chosen h_r_X11_match _ _ _ _ _ _ h)) (fun _ => (PF.ite (fun _ => (PF.ite (fun _ => (PF.bnd (h_r_X11_chosen _ _ _ h) (fun q5 hq5 => (PF.ite (fun _ => (PF.ret1 hq5)) (fun _ => (PF.ret1 hq5)))))) (fun _ => (PF.ite (fun _ => (PF.ite (fun _ => (PF.bnd (h_r_X11_match _ _ _ h) (fun q3 hq3 => (PF.ite (fun _ => (PF.ret1 hq3)) (fun _ => PF.none))))) (fun _ => (wr_X11_match_135 h_r_X11_chosen h_r_X11_match h)))) (fun _ => (wr_X11_match_135 h_r_X11_chosen h_r_X11_match h)))))) (fun _ => PF.none))))) (fun _ => PF.none))
theorem wrR_X11_chosen {s : ST} : ∀ n : Nat, (∀ (p0 : Int32) (p1 : Int32) (σ : ST), KRB s σ → PF st1 (KRB s) ((R_X11_chosen n).1 p0 p1 σ)) ∧ (∀ (p0 : Int32) (p1 : Int32) (σ : ST), KRB s σ → PF st1 (KRB s) ((R_X11_chosen n).2 p0 p1 σ)) := by
  intro n
  induction n with
  | zero => exact ⟨fun _ _ _ _ => PF.none, fun _ _ _ _ => PF.none⟩
  | succ n ih => exact ⟨fun _ _ _ h => wr_X11_chosen (ih.1) (ih.2)  h, fun _ _ _ h => wr_X11_match (ih.1) (ih.2)  h⟩
theorem wr_T_X11_match {s : ST} {p0 : Int32} {p1 : Int32} {σ : ST} (h : KRB s σ) : PF st1 (KRB s) (f_T_X11_match p0 p1 σ) := (wrR_X11_chosen FRB).2 _ _ _  h
theorem wr_X11_readsFlag_30 {s : ST}  {σ : ST}   (h : KRB s σ) : PF st1 (KRB s) (f_X11_readsFlag_30 σ) := by
  unfold f_X11_readsFlag_30
  exact (PF.ret1 h)
theorem wr_X11_readsFlag {s : ST} {p0 : Int32} {σ : ST}   (h : KRB s σ) : PF st1 (KRB s) (f_X11_readsFlag p0 σ) := by
  unfold f_X11_readsFlag
  exact (PF.bnd (wr_X11_nextByte  h) (fun q1 hq1 => (PF.ite (fun _ => (PF.ret1 (KRB.l (by omega) hq1))) (fun _ => (PF.ite (fun _ => (wr_X11_readsFlag_30  (KRB.l (by omega) hq1))) (fun _ => (PF.bnd (wr_X11_fails  (KRB.l (by omega) hq1)) (fun q3 hq3 => (PF.ite (fun _ => (PF.ret1 hq3)) (fun _ => (wr_X11_readsFlag_30  hq3)))))))))))
theorem wr_X11_readsLeaf_229 {s : ST} {x5 : Int32} {y0 : Int32} {y1 : Int32} {σ : ST}   (h : KRB s σ) : PF st1 (KRB s) (f_X11_readsLeaf_229 x5 y0 y1 σ) := by
  unfold f_X11_readsLeaf_229
  exact (PF.ite (fun _ => (PF.ite (fun _ => (PF.ret1 (KRB.i (by omega) h))) (fun _ => PF.none))) (fun _ => PF.none))
theorem wr_X11_readsLeaf_209 {s : ST} {x3 : Int32} {x5 : Int32} {x6 : Int32} {y0 : Int64} {y1 : Int32} {σ : ST}   (h : KRB s σ) : PF st1 (KRB s) (f_X11_readsLeaf_209 x3 x5 x6 y0 y1 σ) := by
  unfold f_X11_readsLeaf_209
  exact (PF.ite (fun _ => (PF.ite (fun _ => (wr_X11_readsLeaf_229  (KRB.l (by omega) h))) (fun _ => (wr_X11_readsLeaf_229  (KRB.l (by omega) h))))) (fun _ => PF.none))
theorem wr_X11_readsLeaf_189 {s : ST} {x3 : Int32} {x5 : Int32} {x6 : Int32} {y0 : Int64} {y1 : Int32} {σ : ST}   (h : KRB s σ) : PF st1 (KRB s) (f_X11_readsLeaf_189 x3 x5 x6 y0 y1 σ) := by
  unfold f_X11_readsLeaf_189
  exact (PF.ite (fun _ => (PF.ite (fun _ => (wr_X11_readsLeaf_209  (KRB.l (by omega) h))) (fun _ => (wr_X11_readsLeaf_209  (KRB.l (by omega) h))))) (fun _ => PF.none))
theorem wr_Jxe99ae_isNaN_b9ae7 {s : ST} {p0 : UInt64} {σ : ST}   (h : KRB s σ) : PF st1 (KRB s) (f_Jxe99ae_isNaN_b9ae7 p0 σ) := by
  unfold f_Jxe99ae_isNaN_b9ae7
  exact (PF.ite (fun _ => (PF.ret1 h)) (fun _ => (PF.ret1 h)))
theorem wr_Jxe99ae_doubleToLongBits_ccdee {s : ST} {p0 : UInt64} {σ : ST}   (h : KRB s σ) : PF st1 (KRB s) (f_Jxe99ae_doubleToLongBits_ccdee p0 σ) := by
  unfold f_Jxe99ae_doubleToLongBits_ccdee
  exact (PF.bnd (wr_Jxe99ae_isNaN_b9ae7  h) (fun q1 hq1 => (PF.ite (fun _ => (PF.ret1 hq1)) (fun _ => (PF.ret1 hq1)))))
theorem wr_X11_readsLeaf_155 {s : ST} {x3 : Int32} {x5 : Int32} {x6 : Int32} {x7 : Int32} {y0 : UInt64} {σ : ST}   (h : KRB s σ) : PF st1 (KRB s) (f_X11_readsLeaf_155 x3 x5 x6 x7 y0 σ) := by
  unfold f_X11_readsLeaf_155
  exact (PF.ite (fun _ => (wr_X11_readsLeaf_189  h)) (fun _ => (PF.ite (fun _ => (wr_X11_readsLeaf_189  h)) (fun _ => (PF.bnd (wr_Jxe99ae_doubleToLongBits_ccdee  h) (fun q1 hq1 => (wr_X11_readsLeaf_189  hq1)))))))
theorem wr_X11_readsLeaf_132 {s : ST} {x3 : Int32} {x5 : Int32} {x6 : Int32} {y0 : Int32} {σ : ST}   (h : KRB s σ) : PF st1 (KRB s) (f_X11_readsLeaf_132 x3 x5 x6 y0 σ) := by
  unfold f_X11_readsLeaf_132
  exact (PF.ite (fun _ => (wr_X11_readsLeaf_155  h)) (fun _ => (wr_X11_readsLeaf_155  h)))
theorem wr_X11_readsLeaf_108 {s : ST} {x2 : Int32} {x3 : Int32} {x5 : Int32} {x6 : Int32} {σ : ST}   (h : KRB s σ) : PF st1 (KRB s) (f_X11_readsLeaf_108 x2 x3 x5 x6 σ) := by
  unfold f_X11_readsLeaf_108
  exact (PF.ite (fun _ => (PF.ite (fun _ => (PF.ret1 h)) (fun _ => PF.none))) (fun _ => (PF.ite (fun _ => (PF.ite (fun _ => (PF.ret1 h)) (fun _ => PF.none))) (fun _ => (PF.ite (fun _ => (PF.ite (fun _ => (wr_X11_readsLeaf_132  h)) (fun _ => (wr_X11_readsLeaf_132  h)))) (fun _ => PF.none))))))
theorem wr_X11_readsReal_7 {s : ST}    : ∀ (n : Nat) (x1 : Int32) (σ : ST), KRB s σ → PF st1 (KRB s) (f_X11_readsReal_7  n x1 σ) := by
  intro n
  induction n with
  | zero => intro x1 σ h; rw [f_X11_readsReal_7]; exact PF.none
  | succ n ih =>
    intro x1 σ h
    rw [f_X11_readsReal_7]
    exact (PF.ite (fun _ => (PF.ret1 h)) (fun _ => (PF.bnd (wr_X11_nextByte  h) (fun q1 hq1 => (PF.ite (fun _ => (ih _ _ (KRB.l (by omega) hq1))) (fun _ => (PF.ret1 hq1)))))))
theorem wr_X11_readsReal {s : ST}  {σ : ST}   (h : KRB s σ) : PF st1 (KRB s) (f_X11_readsReal σ) := by
  unfold f_X11_readsReal
  exact (wr_X11_readsReal_7  _ _ _ (KRB.l (by omega) h))
theorem wr_X11_isLetter {s : ST} {p0 : Int32} {σ : ST}   (h : KRB s σ) : PF st1 (KRB s) (f_X11_isLetter p0 σ) := by
  unfold f_X11_isLetter
  exact (PF.bnd (wr_X11_within  h) (fun q1 hq1 => (PF.ite (fun _ => (PF.ret1 hq1)) (fun _ => PF.none))))
theorem wr_X11_readsText_32 {s : ST}    : ∀ (n : Nat) (x1 : Int32) (x2 : Int32) (x3 : Int32) (σ : ST), KRB s σ → PF st1 (KRB s) (f_X11_readsText_32  n x1 x2 x3 σ) := by
  intro n
  induction n with
  | zero => intro x1 x2 x3 σ h; rw [f_X11_readsText_32]; exact PF.none
  | succ n ih =>
    intro x1 x2 x3 σ h
    rw [f_X11_readsText_32]
    exact (PF.ite (fun _ => (PF.ret1 h)) (fun _ => (PF.bnd (wr_X11_nextByte  h) (fun q1 hq1 => (PF.ite (fun _ => (PF.bnd (wr_X11_isLetter  hq1) (fun q3 hq3 => (PF.ite (fun _ => (PF.bnd (wr_X11_fails  hq3) (fun q5 hq5 => (PF.ite (fun _ => (PF.ret1 hq5)) (fun _ => PF.none))))) (fun _ => (ih _ _ _ _ (KRB.l (by omega) hq3))))))) (fun _ => (PF.ret1 hq1)))))))
theorem wr_X11_readsText {s : ST} {p0 : Int32} {σ : ST}   (h : KRB s σ) : PF st1 (KRB s) (f_X11_readsText p0 σ) := by
  unfold f_X11_readsText
  exact (PF.bnd (wr_X11_readsInt  h) (fun q1 hq1 => (PF.ite (fun _ => (PF.ret1 hq1)) (fun _ => (wr_X11_readsText_32  _ _ _ _ _ (KRB.i (by omega) (KRB.l (by omega) hq1)))))))
theorem wr_X11_readsLeaf {s : ST} {p0 : Int32} {p1 : Int32} {p2 : Int32} {σ : ST}   (h : KRB s σ) : PF st1 (KRB s) (f_X11_readsLeaf p0 p1 p2 σ) := by
  unfold f_X11_readsLeaf
  exact (PF.ite (fun _ => (PF.ite (fun _ => (PF.bnd (wr_X11_readsFlag  (KRB.l (by omega) h)) (fun q10 hq10 => (wr_X11_readsLeaf_108  hq10)))) (fun _ => (PF.ite (fun _ => (PF.bnd (wr_X11_readsInt  (KRB.l (by omega) h)) (fun q8 hq8 => (wr_X11_readsLeaf_108  hq8)))) (fun _ => (PF.ite (fun _ => (PF.bnd (wr_X11_readsNumber  (KRB.l (by omega) h)) (fun q6 hq6 => (wr_X11_readsLeaf_108  hq6)))) (fun _ => (PF.ite (fun _ => (PF.bnd (wr_X11_readsReal  (KRB.l (by omega) h)) (fun q4 hq4 => (wr_X11_readsLeaf_108  hq4)))) (fun _ => (PF.ite (fun _ => (PF.bnd (wr_X11_readsText  (KRB.l (by omega) h)) (fun q2 hq2 => (wr_X11_readsLeaf_108  hq2)))) (fun _ => (wr_X11_readsLeaf_108  (KRB.l (by omega) h))))))))))))) (fun _ => PF.none))
theorem wr_X11_reads_227 {s : ST} {r_X11_reads : Int32 → Int32 → Int32 → Int32 → Int32 → ST → Option (Int32 × ST)} {r_X11_readsItems : Int32 → Int32 → Int32 → Int32 → ST → Option (Int32 × ST)} {r_X11_readsRecord : Int32 → Int32 → Int32 → Int32 → ST → Option (Int32 × ST)} {x1 : Int32} {x3 : Int32} {x8 : Int32} {x9 : Int32} {σ : ST} (h_r_X11_reads : ∀ (x1 : Int32) (x2 : Int32) (x3 : Int32) (x4 : Int32) (x5 : Int32) (σ : ST), KRB s σ → PF st1 (KRB s) (r_X11_reads x1 x2 x3 x4 x5 σ)) (h_r_X11_readsItems : ∀ (x1 : Int32) (x2 : Int32) (x3 : Int32) (x4 : Int32) (σ : ST), KRB s σ → PF st1 (KRB s) (r_X11_readsItems x1 x2 x3 x4 σ)) (h_r_X11_readsRecord : ∀ (x1 : Int32) (x2 : Int32) (x3 : Int32) (x4 : Int32) (σ : ST), KRB s σ → PF st1 (KRB s) (r_X11_readsRecord x1 x2 x3 x4 σ))  (h : KRB s σ) : PF st1 (KRB s) (f_X11_reads_227 r_X11_reads r_X11_readsItems r_X11_readsRecord x1 x3 x8 x9 σ) := by
  unfold f_X11_reads_227
  exact (PF.ite (fun _ => (PF.ite (fun _ => (PF.bnd (h_r_X11_readsItems _ _ _ _ _ h) (fun q4 hq4 => (PF.ite (fun _ => (PF.ret1 hq4)) (fun _ => PF.none))))) (fun _ => (PF.ite (fun _ => (PF.bnd (h_r_X11_readsRecord _ _ _ _ _ h) (fun q6 hq6 => (PF.ite (fun _ => (PF.ret1 hq6)) (fun _ => PF.none))))) (fun _ => (PF.bnd (wr_X11_readsLeaf  h) (fun q8 hq8 => (PF.ite (fun _ => (PF.ret1 hq8)) (fun _ => PF.none))))))))) (fun _ => PF.none))
theorem wr_X11_joins_147 {s : ST} {x1 : Int32} {x2 : Int32} {σ : ST}   (h : KRB s σ) : PF st0 (KRB s) (f_X11_joins_147 x1 x2 σ) := by
  unfold f_X11_joins_147
  exact (PF.ite (fun _ => (PF.ite (fun _ => (PF.ret0 h)) (fun _ => (PF.ite (fun _ => (PF.ret0 (KRB.i (by omega) h))) (fun _ => PF.none))))) (fun _ => PF.none))
theorem wr_X11_joins_125 {s : ST} {x1 : Int32} {x2 : Int32} {x3 : Int32} {y0 : Int32} {y1 : Int32} {σ : ST}   (h : KRB s σ) : PF st0 (KRB s) (f_X11_joins_125 x1 x2 x3 y0 y1 σ) := by
  unfold f_X11_joins_125
  exact (PF.ite (fun _ => (PF.ite (fun _ => (PF.ite (fun _ => (wr_X11_joins_147  (KRB.i (by omega) (KRB.i (by omega) h)))) (fun _ => PF.none))) (fun _ => (PF.ite (fun _ => (wr_X11_joins_147  (KRB.i (by omega) (KRB.i (by omega) h)))) (fun _ => PF.none))))) (fun _ => PF.none))
theorem wr_X11_joins_101 {s : ST} {x1 : Int32} {x2 : Int32} {x3 : Int32} {σ : ST}   (h : KRB s σ) : PF st0 (KRB s) (f_X11_joins_101 x1 x2 x3 σ) := by
  unfold f_X11_joins_101
  exact (PF.ite (fun _ => (PF.ite (fun _ => (wr_X11_joins_125  h)) (fun _ => PF.none))) (fun _ => (PF.ite (fun _ => (wr_X11_joins_125  h)) (fun _ => PF.none))))
theorem wr_X11_joins_65 {s : ST}    : ∀ (n : Nat) (x1 : Int32) (x2 : Int32) (x3 : Int32) (x4 : Int32) (σ : ST), KRB s σ → PF st0 (KRB s) (f_X11_joins_65  n x1 x2 x3 x4 σ) := by
  intro n
  induction n with
  | zero => intro x1 x2 x3 x4 σ h; rw [f_X11_joins_65]; exact PF.none
  | succ n ih =>
    intro x1 x2 x3 x4 σ h
    rw [f_X11_joins_65]
    exact (PF.ite (fun _ => (wr_X11_joins_101  h)) (fun _ => (PF.ite (fun _ => (PF.ite (fun _ => (PF.ite (fun _ => (wr_X11_joins_101  h)) (fun _ => (ih _ _ _ _ _ h)))) (fun _ => PF.none))) (fun _ => PF.none))))
theorem wr_X11_joins_51 {s : ST} {x1 : Int32} {x2 : Int32} {x3 : Int32} {y0 : Int32} {σ : ST}   (h : KRB s σ) : PF st0 (KRB s) (f_X11_joins_51 x1 x2 x3 y0 σ) := by
  unfold f_X11_joins_51
  exact (PF.ite (fun _ => (wr_X11_joins_65  _ _ _ _ _ _ h)) (fun _ => (PF.ite (fun _ => (wr_X11_joins_65  _ _ _ _ _ _ h)) (fun _ => PF.none))))
theorem wr_X11_joins_45 {s : ST} {x1 : Int32} {x2 : Int32} {x3 : Int32} {σ : ST}   (h : KRB s σ) : PF st0 (KRB s) (f_X11_joins_45 x1 x2 x3 σ) := by
  unfold f_X11_joins_45
  exact (PF.ite (fun _ => (wr_X11_joins_51  h)) (fun _ => PF.none))
theorem wr_X11_joins {s : ST} {p0 : Int32} {p1 : Int32} {σ : ST}   (h : KRB s σ) : PF st0 (KRB s) (f_X11_joins p0 p1 σ) := by
  unfold f_X11_joins
  exact (PF.ite (fun _ => (PF.ite (fun _ => (wr_X11_joins_45  (KRB.i (by omega) h))) (fun _ => (PF.ite (fun _ => (PF.ite (fun _ => (PF.ite (fun _ => (wr_X11_joins_45  (KRB.i (by omega) h))) (fun _ => (wr_X11_joins_51  (KRB.i (by omega) h))))) (fun _ => PF.none))) (fun _ => PF.none))))) (fun _ => PF.none))
theorem wr_X11_laysNode {s : ST} {p0 : Int32} {p1 : Int32} {p2 : Int32} {p3 : Int32} {σ : ST}   (h : KRB s σ) : PF st1 (KRB s) (f_X11_laysNode p0 p1 p2 p3 σ) := by
  unfold f_X11_laysNode
  exact (PF.ite (fun _ => (PF.bnd (PF.ret0 (KRB.l (by omega) (KRB.i (by omega) (KRB.i (by omega) h)))) (fun z2 hz2 => (PF.bnd (PF.ret0 (KRB.i (by omega) (KRB.i (by omega) (KRB.l (by omega) hz2)))) (fun z3 hz3 => (PF.bnd (PF.ret0 (KRB.i (by omega) (KRB.i (by omega) (KRB.i (by omega) hz3)))) (fun z4 hz4 => (PF.bnd (PF.ret0 (KRB.i (by omega) (KRB.i (by omega) (KRB.i (by omega) hz4)))) (fun z5 hz5 => (PF.ite (fun _ => (PF.ret1 hz5)) (fun _ => (PF.bnd (wr_X11_joins  hz5) (fun q6 hq6 => (PF.ret1 hq6)))))))))))))) (fun _ => PF.none))
theorem wr_X11_reads_180 {s : ST} {r_X11_reads : Int32 → Int32 → Int32 → Int32 → Int32 → ST → Option (Int32 × ST)} {r_X11_readsItems : Int32 → Int32 → Int32 → Int32 → ST → Option (Int32 × ST)} {r_X11_readsRecord : Int32 → Int32 → Int32 → Int32 → ST → Option (Int32 × ST)} {x1 : Int32} {x3 : Int32} {x4 : Int32} {x5 : Int32} {x7 : Int32} {y0 : Int32} {σ : ST} (h_r_X11_reads : ∀ (x1 : Int32) (x2 : Int32) (x3 : Int32) (x4 : Int32) (x5 : Int32) (σ : ST), KRB s σ → PF st1 (KRB s) (r_X11_reads x1 x2 x3 x4 x5 σ)) (h_r_X11_readsItems : ∀ (x1 : Int32) (x2 : Int32) (x3 : Int32) (x4 : Int32) (σ : ST), KRB s σ → PF st1 (KRB s) (r_X11_readsItems x1 x2 x3 x4 σ)) (h_r_X11_readsRecord : ∀ (x1 : Int32) (x2 : Int32) (x3 : Int32) (x4 : Int32) (σ : ST), KRB s σ → PF st1 (KRB s) (r_X11_readsRecord x1 x2 x3 x4 σ))  (h : KRB s σ) : PF st1 (KRB s) (f_X11_reads_180 r_X11_reads r_X11_readsItems r_X11_readsRecord x1 x3 x4 x5 x7 y0 σ) := by
  unfold f_X11_reads_180
  exact (PF.ite (fun _ => (wr_X11_reads_227 h_r_X11_reads h_r_X11_readsItems h_r_X11_readsRecord h)) (fun _ => (PF.ite (fun _ => (PF.bnd (wr_X11_fails  h) (fun q4 hq4 => (PF.ite (fun _ => (PF.ret1 hq4)) (fun _ => PF.none))))) (fun _ => (PF.ite (fun _ => (PF.bnd (wr_X11_laysNode  h) (fun q2 hq2 => (wr_X11_reads_227 h_r_X11_reads h_r_X11_readsItems h_r_X11_readsRecord hq2)))) (fun _ => PF.none))))))
theorem wr_X11_reads_158 {s : ST} {r_X11_reads : Int32 → Int32 → Int32 → Int32 → Int32 → ST → Option (Int32 × ST)} {r_X11_readsItems : Int32 → Int32 → Int32 → Int32 → ST → Option (Int32 × ST)} {r_X11_readsRecord : Int32 → Int32 → Int32 → Int32 → ST → Option (Int32 × ST)} {x1 : Int32} {x2 : Int32} {x3 : Int32} {x4 : Int32} {x5 : Int32} {y0 : Int32} {σ : ST} (h_r_X11_reads : ∀ (x1 : Int32) (x2 : Int32) (x3 : Int32) (x4 : Int32) (x5 : Int32) (σ : ST), KRB s σ → PF st1 (KRB s) (r_X11_reads x1 x2 x3 x4 x5 σ)) (h_r_X11_readsItems : ∀ (x1 : Int32) (x2 : Int32) (x3 : Int32) (x4 : Int32) (σ : ST), KRB s σ → PF st1 (KRB s) (r_X11_readsItems x1 x2 x3 x4 σ)) (h_r_X11_readsRecord : ∀ (x1 : Int32) (x2 : Int32) (x3 : Int32) (x4 : Int32) (σ : ST), KRB s σ → PF st1 (KRB s) (r_X11_readsRecord x1 x2 x3 x4 σ))  (h : KRB s σ) : PF st1 (KRB s) (f_X11_reads_158 r_X11_reads r_X11_readsItems r_X11_readsRecord x1 x2 x3 x4 x5 y0 σ) := by
  unfold f_X11_reads_158
  exact (PF.ite (fun _ => (PF.ite (fun _ => (wr_X11_reads_180 h_r_X11_reads h_r_X11_readsItems h_r_X11_readsRecord h)) (fun _ => PF.none))) (fun _ => (wr_X11_reads_180 h_r_X11_reads h_r_X11_readsItems h_r_X11_readsRecord h)))
theorem wr_X11_reads_157 {s : ST} {r_X11_reads : Int32 → Int32 → Int32 → Int32 → Int32 → ST → Option (Int32 × ST)} {r_X11_readsItems : Int32 → Int32 → Int32 → Int32 → ST → Option (Int32 × ST)} {r_X11_readsRecord : Int32 → Int32 → Int32 → Int32 → ST → Option (Int32 × ST)} {x1 : Int32} {x2 : Int32} {x3 : Int32} {x4 : Int32} {x5 : Int32} {σ : ST} (h_r_X11_reads : ∀ (x1 : Int32) (x2 : Int32) (x3 : Int32) (x4 : Int32) (x5 : Int32) (σ : ST), KRB s σ → PF st1 (KRB s) (r_X11_reads x1 x2 x3 x4 x5 σ)) (h_r_X11_readsItems : ∀ (x1 : Int32) (x2 : Int32) (x3 : Int32) (x4 : Int32) (σ : ST), KRB s σ → PF st1 (KRB s) (r_X11_readsItems x1 x2 x3 x4 σ)) (h_r_X11_readsRecord : ∀ (x1 : Int32) (x2 : Int32) (x3 : Int32) (x4 : Int32) (σ : ST), KRB s σ → PF st1 (KRB s) (r_X11_readsRecord x1 x2 x3 x4 σ))  (h : KRB s σ) : PF st1 (KRB s) (f_X11_reads_157 r_X11_reads r_X11_readsItems r_X11_readsRecord x1 x2 x3 x4 x5 σ) := by
  unfold f_X11_reads_157
  exact (wr_X11_reads_158 h_r_X11_reads h_r_X11_readsItems h_r_X11_readsRecord h)
theorem wr_T_X11_chosen {s : ST} {p0 : Int32} {p1 : Int32} {σ : ST} (h : KRB s σ) : PF st1 (KRB s) (f_T_X11_chosen p0 p1 σ) := (wrR_X11_chosen FRB).1 _ _ _  h
theorem wr_X11_reads {s : ST} {r_X11_reads : Int32 → Int32 → Int32 → Int32 → Int32 → ST → Option (Int32 × ST)} {r_X11_readsItems : Int32 → Int32 → Int32 → Int32 → ST → Option (Int32 × ST)} {r_X11_readsRecord : Int32 → Int32 → Int32 → Int32 → ST → Option (Int32 × ST)} {p0 : Int32} {p1 : Int32} {p2 : Int32} {p3 : Int32} {p4 : Int32} {σ : ST} (h_r_X11_reads : ∀ (x1 : Int32) (x2 : Int32) (x3 : Int32) (x4 : Int32) (x5 : Int32) (σ : ST), KRB s σ → PF st1 (KRB s) (r_X11_reads x1 x2 x3 x4 x5 σ)) (h_r_X11_readsItems : ∀ (x1 : Int32) (x2 : Int32) (x3 : Int32) (x4 : Int32) (σ : ST), KRB s σ → PF st1 (KRB s) (r_X11_readsItems x1 x2 x3 x4 σ)) (h_r_X11_readsRecord : ∀ (x1 : Int32) (x2 : Int32) (x3 : Int32) (x4 : Int32) (σ : ST), KRB s σ → PF st1 (KRB s) (r_X11_readsRecord x1 x2 x3 x4 σ))  (h : KRB s σ) : PF st1 (KRB s) (f_X11_reads r_X11_reads r_X11_readsItems r_X11_readsRecord p0 p1 p2 p3 p4 σ) := by
  unfold f_X11_reads
  exact (PF.ite (fun _ => (PF.ite (fun _ => (PF.ite (fun _ => (PF.bnd (wr_X11_readsInt  h) (fun q5 hq5 => (PF.ite (fun _ => (PF.ret1 hq5)) (fun _ => (PF.ite (fun _ => (PF.ite (fun _ => (wr_X11_reads_96 h_r_X11_reads h_r_X11_readsItems h_r_X11_readsRecord hq5)) (fun _ => (PF.bnd (wr_T_X11_match hq5) (fun q8 hq8 => (PF.ite (fun _ => (PF.bnd (wr_X11_fails  hq8) (fun q10 hq10 => (PF.ite (fun _ => (PF.ret1 hq10)) (fun _ => PF.none))))) (fun _ => (wr_X11_reads_96 h_r_X11_reads h_r_X11_readsItems h_r_X11_readsRecord hq8)))))))) (fun _ => PF.none))))))) (fun _ => (PF.ite (fun _ => (wr_X11_reads_157 h_r_X11_reads h_r_X11_readsItems h_r_X11_readsRecord h)) (fun _ => (PF.ite (fun _ => (PF.ite (fun _ => (PF.bnd (wr_T_X11_chosen h) (fun q3 hq3 => (wr_X11_reads_158 h_r_X11_reads h_r_X11_readsItems h_r_X11_readsRecord hq3)))) (fun _ => (wr_X11_reads_157 h_r_X11_reads h_r_X11_readsItems h_r_X11_readsRecord h)))) (fun _ => PF.none))))))) (fun _ => PF.none))) (fun _ => (PF.bnd (wr_X11_fails  h) (fun q12 hq12 => (PF.ite (fun _ => (PF.ret1 hq12)) (fun _ => PF.none))))))
theorem wr_X11_readsItems_64 {s : ST} {r_X11_reads : Int32 → Int32 → Int32 → Int32 → Int32 → ST → Option (Int32 × ST)} {r_X11_readsItems : Int32 → Int32 → Int32 → Int32 → ST → Option (Int32 × ST)} {r_X11_readsRecord : Int32 → Int32 → Int32 → Int32 → ST → Option (Int32 × ST)} {k27 : Int32 → Int32 → Int32 → Int32 → Int32 → Int32 → ST → Option (Int32 × ST)} {x1 : Int32} {x2 : Int32} {x3 : Int32} {x4 : Int32} {x5 : Int32} {x6 : Int32} {y0 : Int32} {y1 : Int32} {σ : ST} (h_r_X11_reads : ∀ (x1 : Int32) (x2 : Int32) (x3 : Int32) (x4 : Int32) (x5 : Int32) (σ : ST), KRB s σ → PF st1 (KRB s) (r_X11_reads x1 x2 x3 x4 x5 σ)) (h_r_X11_readsItems : ∀ (x1 : Int32) (x2 : Int32) (x3 : Int32) (x4 : Int32) (σ : ST), KRB s σ → PF st1 (KRB s) (r_X11_readsItems x1 x2 x3 x4 σ)) (h_r_X11_readsRecord : ∀ (x1 : Int32) (x2 : Int32) (x3 : Int32) (x4 : Int32) (σ : ST), KRB s σ → PF st1 (KRB s) (r_X11_readsRecord x1 x2 x3 x4 σ)) (h_k27 : ∀ (x1 : Int32) (x2 : Int32) (x3 : Int32) (x4 : Int32) (x5 : Int32) (x6 : Int32) (σ : ST), KRB s σ → PF st1 (KRB s) (k27 x1 x2 x3 x4 x5 x6 σ))  (h : KRB s σ) : PF st1 (KRB s) (f_X11_readsItems_64 r_X11_reads r_X11_readsItems r_X11_readsRecord k27 x1 x2 x3 x4 x5 x6 y0 y1 σ) := by
  unfold f_X11_readsItems_64
  exact (PF.bnd (h_r_X11_reads _ _ _ _ _ _ h) (fun q1 hq1 => (PF.ite (fun _ => (PF.ret1 hq1)) (fun _ => (h_k27 _ _ _ _ _ _ _ (KRB.i (by omega) hq1))))))
theorem wr_X11_readsItems_27 {s : ST} {r_X11_reads : Int32 → Int32 → Int32 → Int32 → Int32 → ST → Option (Int32 × ST)} {r_X11_readsItems : Int32 → Int32 → Int32 → Int32 → ST → Option (Int32 × ST)} {r_X11_readsRecord : Int32 → Int32 → Int32 → Int32 → ST → Option (Int32 × ST)} (h_r_X11_reads : ∀ (x1 : Int32) (x2 : Int32) (x3 : Int32) (x4 : Int32) (x5 : Int32) (σ : ST), KRB s σ → PF st1 (KRB s) (r_X11_reads x1 x2 x3 x4 x5 σ)) (h_r_X11_readsItems : ∀ (x1 : Int32) (x2 : Int32) (x3 : Int32) (x4 : Int32) (σ : ST), KRB s σ → PF st1 (KRB s) (r_X11_readsItems x1 x2 x3 x4 σ)) (h_r_X11_readsRecord : ∀ (x1 : Int32) (x2 : Int32) (x3 : Int32) (x4 : Int32) (σ : ST), KRB s σ → PF st1 (KRB s) (r_X11_readsRecord x1 x2 x3 x4 σ))  : ∀ (n : Nat) (x1 : Int32) (x2 : Int32) (x3 : Int32) (x4 : Int32) (x5 : Int32) (x6 : Int32) (σ : ST), KRB s σ → PF st1 (KRB s) (f_X11_readsItems_27 r_X11_reads r_X11_readsItems r_X11_readsRecord n x1 x2 x3 x4 x5 x6 σ) := by
  intro n
  induction n with
  | zero => intro x1 x2 x3 x4 x5 x6 σ h; rw [f_X11_readsItems_27]; exact PF.none
  | succ n ih =>
    intro x1 x2 x3 x4 x5 x6 σ h
    rw [f_X11_readsItems_27]
    exact (PF.ite (fun _ => (PF.ret1 h)) (fun _ => (PF.bnd (wr_X11_enters  h) (fun q1 hq1 => (PF.ite (fun _ => (PF.ite (fun _ => (PF.ite (fun _ => (wr_X11_readsItems_64 h_r_X11_reads h_r_X11_readsItems h_r_X11_readsRecord ih hq1)) (fun _ => PF.none))) (fun _ => (wr_X11_readsItems_64 h_r_X11_reads h_r_X11_readsItems h_r_X11_readsRecord ih hq1)))) (fun _ => PF.none))))))
theorem wr_X11_readsItems {s : ST} {r_X11_reads : Int32 → Int32 → Int32 → Int32 → Int32 → ST → Option (Int32 × ST)} {r_X11_readsItems : Int32 → Int32 → Int32 → Int32 → ST → Option (Int32 × ST)} {r_X11_readsRecord : Int32 → Int32 → Int32 → Int32 → ST → Option (Int32 × ST)} {p0 : Int32} {p1 : Int32} {p2 : Int32} {p3 : Int32} {σ : ST} (h_r_X11_reads : ∀ (x1 : Int32) (x2 : Int32) (x3 : Int32) (x4 : Int32) (x5 : Int32) (σ : ST), KRB s σ → PF st1 (KRB s) (r_X11_reads x1 x2 x3 x4 x5 σ)) (h_r_X11_readsItems : ∀ (x1 : Int32) (x2 : Int32) (x3 : Int32) (x4 : Int32) (σ : ST), KRB s σ → PF st1 (KRB s) (r_X11_readsItems x1 x2 x3 x4 σ)) (h_r_X11_readsRecord : ∀ (x1 : Int32) (x2 : Int32) (x3 : Int32) (x4 : Int32) (σ : ST), KRB s σ → PF st1 (KRB s) (r_X11_readsRecord x1 x2 x3 x4 σ))  (h : KRB s σ) : PF st1 (KRB s) (f_X11_readsItems r_X11_reads r_X11_readsItems r_X11_readsRecord p0 p1 p2 p3 σ) := by
  unfold f_X11_readsItems
  exact (PF.bnd (wr_X11_readsInt  h) (fun q1 hq1 => (PF.ite (fun _ => (PF.ret1 hq1)) (fun _ => (wr_X11_readsItems_27 h_r_X11_reads h_r_X11_readsItems h_r_X11_readsRecord _ _ _ _ _ _ _ _ hq1)))))
theorem wr_X11_fieldOf_3 {s : ST}    : ∀ (n : Nat) (x1 : Int32) (x2 : Int64) (x3 : Int32) (σ : ST), KRB s σ → PF st1 (KRB s) (f_X11_fieldOf_3  n x1 x2 x3 σ) := by
  intro n
  induction n with
  | zero => intro x1 x2 x3 σ h; rw [f_X11_fieldOf_3]; exact PF.none
  | succ n ih =>
    intro x1 x2 x3 σ h
    rw [f_X11_fieldOf_3]
    exact (PF.ite (fun _ => (PF.ite (fun _ => (PF.ret1 h)) (fun _ => (PF.ite (fun _ => (PF.ite (fun _ => (PF.ret1 h)) (fun _ => (ih _ _ _ _ h)))) (fun _ => PF.none))))) (fun _ => PF.none))
theorem wr_X11_fieldOf {s : ST} {p0 : Int32} {p1 : Int64} {σ : ST}   (h : KRB s σ) : PF st1 (KRB s) (f_X11_fieldOf p0 p1 σ) := by
  unfold f_X11_fieldOf
  exact (wr_X11_fieldOf_3  _ _ _ _ _ h)
theorem wr_X11_fieldFor {s : ST} {p0 : Int32} {p1 : Int32} {σ : ST}   (h : KRB s σ) : PF st1 (KRB s) (f_X11_fieldFor p0 p1 σ) := by
  unfold f_X11_fieldFor
  exact (PF.ite (fun _ => (PF.bnd (wr_X11_fieldOf  h) (fun q2 hq2 => (PF.ite (fun _ => (PF.ret1 hq2)) (fun _ => (PF.ite (fun _ => (PF.ret1 hq2)) (fun _ => (PF.bnd (wr_X11_fieldOf  hq2) (fun q4 hq4 => (PF.ret1 hq4)))))))))) (fun _ => PF.none))
theorem wr_X11_readsRecord_286 {s : ST} {r_X11_reads : Int32 → Int32 → Int32 → Int32 → Int32 → ST → Option (Int32 × ST)} {r_X11_readsItems : Int32 → Int32 → Int32 → Int32 → ST → Option (Int32 × ST)} {r_X11_readsRecord : Int32 → Int32 → Int32 → Int32 → ST → Option (Int32 × ST)} {k217 : Int32 → Int32 → Int32 → Int32 → Int32 → ST → Option (Int32 × ST)} {x1 : Int32} {x2 : Int32} {x4 : Int32} {x6 : Int32} {x7 : Int32} {σ : ST} (h_r_X11_reads : ∀ (x1 : Int32) (x2 : Int32) (x3 : Int32) (x4 : Int32) (x5 : Int32) (σ : ST), KRB s σ → PF st1 (KRB s) (r_X11_reads x1 x2 x3 x4 x5 σ)) (h_r_X11_readsItems : ∀ (x1 : Int32) (x2 : Int32) (x3 : Int32) (x4 : Int32) (σ : ST), KRB s σ → PF st1 (KRB s) (r_X11_readsItems x1 x2 x3 x4 σ)) (h_r_X11_readsRecord : ∀ (x1 : Int32) (x2 : Int32) (x3 : Int32) (x4 : Int32) (σ : ST), KRB s σ → PF st1 (KRB s) (r_X11_readsRecord x1 x2 x3 x4 σ)) (h_k217 : ∀ (x1 : Int32) (x2 : Int32) (x3 : Int32) (x4 : Int32) (x5 : Int32) (σ : ST), KRB s σ → PF st1 (KRB s) (k217 x1 x2 x3 x4 x5 σ))  (h : KRB s σ) : PF st1 (KRB s) (f_X11_readsRecord_286 r_X11_reads r_X11_readsItems r_X11_readsRecord k217 x1 x2 x4 x6 x7 σ) := by
  unfold f_X11_readsRecord_286
  exact (h_k217 _ _ _ _ _ _ h)
theorem wr_X11_firstOf {s : ST} {p0 : Int32} {σ : ST}   (h : KRB s σ) : PF st1 (KRB s) (f_X11_firstOf p0 σ) := by
  unfold f_X11_firstOf
  exact (PF.ite (fun _ => (PF.ite (fun _ => (PF.ite (fun _ => (PF.ret1 h)) (fun _ => PF.none))) (fun _ => (PF.ret1 h)))) (fun _ => PF.none))
theorem wr_X11_fills_103 {s : ST} {x6 : Int32} {y0 : Int32} {y1 : Int32} {σ : ST}   (h : KRB s σ) : PF st0 (KRB s) (f_X11_fills_103 x6 y0 y1 σ) := by
  unfold f_X11_fills_103
  exact (PF.ite (fun _ => (PF.ite (fun _ => (PF.ret0 (KRB.i (by omega) (KRB.i (by omega) h)))) (fun _ => PF.none))) (fun _ => PF.none))
theorem wr_X11_fills_45 {s : ST} {x1 : Int32} {x5 : Int32} {y0 : Int32} {y1 : Int32} {y2 : Int32} {y3 : Int32} {σ : ST}   (h : KRB s σ) : PF st0 (KRB s) (f_X11_fills_45 x1 x5 y0 y1 y2 y3 σ) := by
  unfold f_X11_fills_45
  exact (PF.bnd (wr_X11_laysNode  h) (fun q1 hq1 => (PF.ite (fun _ => (PF.ite (fun _ => (PF.bnd (PF.ret0 (KRB.l (by omega) (KRB.l (by omega) hq1))) (fun z5 hz5 => (PF.ite (fun _ => (PF.ite (fun _ => (wr_X11_fills_103  hz5)) (fun _ => (wr_X11_fills_103  hz5)))) (fun _ => PF.none))))) (fun _ => PF.none))) (fun _ => PF.none))))
theorem wr_X11_fills {s : ST} {p0 : Int32} {p1 : Int32} {p2 : Int32} {σ : ST}   (h : KRB s σ) : PF st0 (KRB s) (f_X11_fills p0 p1 p2 σ) := by
  unfold f_X11_fills
  exact (PF.ite (fun _ => (PF.bnd (wr_X11_firstOf  h) (fun q2 hq2 => (PF.ite (fun _ => (PF.ite (fun _ => (wr_X11_fills_45  hq2)) (fun _ => (wr_X11_fills_45  hq2)))) (fun _ => PF.none))))) (fun _ => PF.none))
theorem wr_X11_readsRecord_217 {s : ST} {r_X11_reads : Int32 → Int32 → Int32 → Int32 → Int32 → ST → Option (Int32 × ST)} {r_X11_readsItems : Int32 → Int32 → Int32 → Int32 → ST → Option (Int32 × ST)} {r_X11_readsRecord : Int32 → Int32 → Int32 → Int32 → ST → Option (Int32 × ST)} (h_r_X11_reads : ∀ (x1 : Int32) (x2 : Int32) (x3 : Int32) (x4 : Int32) (x5 : Int32) (σ : ST), KRB s σ → PF st1 (KRB s) (r_X11_reads x1 x2 x3 x4 x5 σ)) (h_r_X11_readsItems : ∀ (x1 : Int32) (x2 : Int32) (x3 : Int32) (x4 : Int32) (σ : ST), KRB s σ → PF st1 (KRB s) (r_X11_readsItems x1 x2 x3 x4 σ)) (h_r_X11_readsRecord : ∀ (x1 : Int32) (x2 : Int32) (x3 : Int32) (x4 : Int32) (σ : ST), KRB s σ → PF st1 (KRB s) (r_X11_readsRecord x1 x2 x3 x4 σ))  : ∀ (n : Nat) (x1 : Int32) (x2 : Int32) (x3 : Int32) (x4 : Int32) (x5 : Int32) (σ : ST), KRB s σ → PF st1 (KRB s) (f_X11_readsRecord_217 r_X11_reads r_X11_readsItems r_X11_readsRecord n x1 x2 x3 x4 x5 σ) := by
  intro n
  induction n with
  | zero => intro x1 x2 x3 x4 x5 σ h; rw [f_X11_readsRecord_217]; exact PF.none
  | succ n ih =>
    intro x1 x2 x3 x4 x5 σ h
    rw [f_X11_readsRecord_217]
    exact (PF.ite (fun _ => (PF.ret1 h)) (fun _ => (PF.ite (fun _ => (PF.ite (fun _ => (PF.ret1 h)) (fun _ => (PF.ite (fun _ => (PF.bnd (wr_X11_fieldFor  h) (fun q3 hq3 => (PF.ite (fun _ => (wr_X11_readsRecord_286 h_r_X11_reads h_r_X11_readsItems h_r_X11_readsRecord ih hq3)) (fun _ => (PF.ite (fun _ => (PF.bnd (wr_X11_fails  hq3) (fun q7 hq7 => (PF.ite (fun _ => (PF.ret1 hq7)) (fun _ => PF.none))))) (fun _ => (PF.bnd (wr_X11_fills  hq3) (fun q5 hq5 => (wr_X11_readsRecord_286 h_r_X11_reads h_r_X11_readsItems h_r_X11_readsRecord ih hq5)))))))))) (fun _ => PF.none))))) (fun _ => PF.none))))
theorem wr_X11_readsRecord_198 {s : ST} {r_X11_reads : Int32 → Int32 → Int32 → Int32 → Int32 → ST → Option (Int32 × ST)} {r_X11_readsItems : Int32 → Int32 → Int32 → Int32 → ST → Option (Int32 × ST)} {r_X11_readsRecord : Int32 → Int32 → Int32 → Int32 → ST → Option (Int32 × ST)} {k43 : Int32 → Int32 → Int32 → Int32 → Int32 → Int32 → Int32 → ST → Option (Int32 × ST)} {x1 : Int32} {x2 : Int32} {x3 : Int32} {x4 : Int32} {x5 : Int32} {x6 : Int32} {x7 : Int32} {σ : ST} (h_r_X11_reads : ∀ (x1 : Int32) (x2 : Int32) (x3 : Int32) (x4 : Int32) (x5 : Int32) (σ : ST), KRB s σ → PF st1 (KRB s) (r_X11_reads x1 x2 x3 x4 x5 σ)) (h_r_X11_readsItems : ∀ (x1 : Int32) (x2 : Int32) (x3 : Int32) (x4 : Int32) (σ : ST), KRB s σ → PF st1 (KRB s) (r_X11_readsItems x1 x2 x3 x4 σ)) (h_r_X11_readsRecord : ∀ (x1 : Int32) (x2 : Int32) (x3 : Int32) (x4 : Int32) (σ : ST), KRB s σ → PF st1 (KRB s) (r_X11_readsRecord x1 x2 x3 x4 σ)) (h_k43 : ∀ (x1 : Int32) (x2 : Int32) (x3 : Int32) (x4 : Int32) (x5 : Int32) (x6 : Int32) (x7 : Int32) (σ : ST), KRB s σ → PF st1 (KRB s) (k43 x1 x2 x3 x4 x5 x6 x7 σ))  (h : KRB s σ) : PF st1 (KRB s) (f_X11_readsRecord_198 r_X11_reads r_X11_readsItems r_X11_readsRecord k43 x1 x2 x3 x4 x5 x6 x7 σ) := by
  unfold f_X11_readsRecord_198
  exact (h_k43 _ _ _ _ _ _ _ _ (KRB.i (by omega) h))
theorem wr_X11_readsRecord_171 {s : ST} {r_X11_reads : Int32 → Int32 → Int32 → Int32 → Int32 → ST → Option (Int32 × ST)} {r_X11_readsItems : Int32 → Int32 → Int32 → Int32 → ST → Option (Int32 × ST)} {r_X11_readsRecord : Int32 → Int32 → Int32 → Int32 → ST → Option (Int32 × ST)} {k43 : Int32 → Int32 → Int32 → Int32 → Int32 → Int32 → Int32 → ST → Option (Int32 × ST)} {x1 : Int32} {x2 : Int32} {x3 : Int32} {x4 : Int32} {x5 : Int32} {x6 : Int32} {x7 : Int32} {x8 : Int32} {x10 : Int32} {σ : ST} (h_r_X11_reads : ∀ (x1 : Int32) (x2 : Int32) (x3 : Int32) (x4 : Int32) (x5 : Int32) (σ : ST), KRB s σ → PF st1 (KRB s) (r_X11_reads x1 x2 x3 x4 x5 σ)) (h_r_X11_readsItems : ∀ (x1 : Int32) (x2 : Int32) (x3 : Int32) (x4 : Int32) (σ : ST), KRB s σ → PF st1 (KRB s) (r_X11_readsItems x1 x2 x3 x4 σ)) (h_r_X11_readsRecord : ∀ (x1 : Int32) (x2 : Int32) (x3 : Int32) (x4 : Int32) (σ : ST), KRB s σ → PF st1 (KRB s) (r_X11_readsRecord x1 x2 x3 x4 σ)) (h_k43 : ∀ (x1 : Int32) (x2 : Int32) (x3 : Int32) (x4 : Int32) (x5 : Int32) (x6 : Int32) (x7 : Int32) (σ : ST), KRB s σ → PF st1 (KRB s) (k43 x1 x2 x3 x4 x5 x6 x7 σ))  (h : KRB s σ) : PF st1 (KRB s) (f_X11_readsRecord_171 r_X11_reads r_X11_readsItems r_X11_readsRecord k43 x1 x2 x3 x4 x5 x6 x7 x8 x10 σ) := by
  unfold f_X11_readsRecord_171
  exact (PF.ite (fun _ => (PF.ite (fun _ => (PF.bnd (h_r_X11_reads _ _ _ _ _ _ h) (fun q2 hq2 => (PF.ite (fun _ => (PF.ret1 hq2)) (fun _ => (wr_X11_readsRecord_198 h_r_X11_reads h_r_X11_readsItems h_r_X11_readsRecord h_k43 hq2)))))) (fun _ => PF.none))) (fun _ => (wr_X11_readsRecord_198 h_r_X11_reads h_r_X11_readsItems h_r_X11_readsRecord h_k43 h)))
theorem wr_X11_readsRecord_165 {s : ST} {r_X11_reads : Int32 → Int32 → Int32 → Int32 → Int32 → ST → Option (Int32 × ST)} {r_X11_readsItems : Int32 → Int32 → Int32 → Int32 → ST → Option (Int32 × ST)} {r_X11_readsRecord : Int32 → Int32 → Int32 → Int32 → ST → Option (Int32 × ST)} {k43 : Int32 → Int32 → Int32 → Int32 → Int32 → Int32 → Int32 → ST → Option (Int32 × ST)} {k83 : Int32 → Int32 → Int32 → Int32 → Int32 → Int32 → Int32 → Int32 → Int32 → Int32 → Int32 → ST → Option (Int32 × ST)} {x1 : Int32} {x2 : Int32} {x3 : Int32} {x4 : Int32} {x5 : Int32} {x6 : Int32} {x7 : Int32} {x8 : Int32} {x9 : Int32} {x10 : Int32} {x11 : Int32} {σ : ST} (h_r_X11_reads : ∀ (x1 : Int32) (x2 : Int32) (x3 : Int32) (x4 : Int32) (x5 : Int32) (σ : ST), KRB s σ → PF st1 (KRB s) (r_X11_reads x1 x2 x3 x4 x5 σ)) (h_r_X11_readsItems : ∀ (x1 : Int32) (x2 : Int32) (x3 : Int32) (x4 : Int32) (σ : ST), KRB s σ → PF st1 (KRB s) (r_X11_readsItems x1 x2 x3 x4 σ)) (h_r_X11_readsRecord : ∀ (x1 : Int32) (x2 : Int32) (x3 : Int32) (x4 : Int32) (σ : ST), KRB s σ → PF st1 (KRB s) (r_X11_readsRecord x1 x2 x3 x4 σ)) (h_k43 : ∀ (x1 : Int32) (x2 : Int32) (x3 : Int32) (x4 : Int32) (x5 : Int32) (x6 : Int32) (x7 : Int32) (σ : ST), KRB s σ → PF st1 (KRB s) (k43 x1 x2 x3 x4 x5 x6 x7 σ)) (h_k83 : ∀ (x1 : Int32) (x2 : Int32) (x3 : Int32) (x4 : Int32) (x5 : Int32) (x6 : Int32) (x7 : Int32) (x8 : Int32) (x9 : Int32) (x10 : Int32) (x11 : Int32) (σ : ST), KRB s σ → PF st1 (KRB s) (k83 x1 x2 x3 x4 x5 x6 x7 x8 x9 x10 x11 σ))  (h : KRB s σ) : PF st1 (KRB s) (f_X11_readsRecord_165 r_X11_reads r_X11_readsItems r_X11_readsRecord k43 k83 x1 x2 x3 x4 x5 x6 x7 x8 x9 x10 x11 σ) := by
  unfold f_X11_readsRecord_165
  exact (h_k83 _ _ _ _ _ _ _ _ _ _ _ _ h)
theorem wr_X11_readsRecord_83 {s : ST} {r_X11_reads : Int32 → Int32 → Int32 → Int32 → Int32 → ST → Option (Int32 × ST)} {r_X11_readsItems : Int32 → Int32 → Int32 → Int32 → ST → Option (Int32 × ST)} {r_X11_readsRecord : Int32 → Int32 → Int32 → Int32 → ST → Option (Int32 × ST)} {k43 : Int32 → Int32 → Int32 → Int32 → Int32 → Int32 → Int32 → ST → Option (Int32 × ST)} (h_r_X11_reads : ∀ (x1 : Int32) (x2 : Int32) (x3 : Int32) (x4 : Int32) (x5 : Int32) (σ : ST), KRB s σ → PF st1 (KRB s) (r_X11_reads x1 x2 x3 x4 x5 σ)) (h_r_X11_readsItems : ∀ (x1 : Int32) (x2 : Int32) (x3 : Int32) (x4 : Int32) (σ : ST), KRB s σ → PF st1 (KRB s) (r_X11_readsItems x1 x2 x3 x4 σ)) (h_r_X11_readsRecord : ∀ (x1 : Int32) (x2 : Int32) (x3 : Int32) (x4 : Int32) (σ : ST), KRB s σ → PF st1 (KRB s) (r_X11_readsRecord x1 x2 x3 x4 σ)) (h_k43 : ∀ (x1 : Int32) (x2 : Int32) (x3 : Int32) (x4 : Int32) (x5 : Int32) (x6 : Int32) (x7 : Int32) (σ : ST), KRB s σ → PF st1 (KRB s) (k43 x1 x2 x3 x4 x5 x6 x7 σ))  : ∀ (n : Nat) (x1 : Int32) (x2 : Int32) (x3 : Int32) (x4 : Int32) (x5 : Int32) (x6 : Int32) (x7 : Int32) (x8 : Int32) (x9 : Int32) (x10 : Int32) (x11 : Int32) (σ : ST), KRB s σ → PF st1 (KRB s) (f_X11_readsRecord_83 r_X11_reads r_X11_readsItems r_X11_readsRecord k43 n x1 x2 x3 x4 x5 x6 x7 x8 x9 x10 x11 σ) := by
  intro n
  induction n with
  | zero => intro x1 x2 x3 x4 x5 x6 x7 x8 x9 x10 x11 σ h; rw [f_X11_readsRecord_83]; exact PF.none
  | succ n ih =>
    intro x1 x2 x3 x4 x5 x6 x7 x8 x9 x10 x11 σ h
    rw [f_X11_readsRecord_83]
    exact (PF.ite (fun _ => (wr_X11_readsRecord_171 h_r_X11_reads h_r_X11_readsItems h_r_X11_readsRecord h_k43 h)) (fun _ => (PF.ite (fun _ => (PF.ite (fun _ => (wr_X11_readsRecord_171 h_r_X11_reads h_r_X11_readsItems h_r_X11_readsRecord h_k43 h)) (fun _ => (PF.ite (fun _ => (PF.bnd (wr_X11_fieldFor  h) (fun q3 hq3 => (PF.ite (fun _ => (PF.ite (fun _ => (PF.ite (fun _ => (PF.bnd (h_r_X11_reads _ _ _ _ _ _ (KRB.i (by omega) hq3)) (fun q7 hq7 => (PF.ite (fun _ => (PF.ret1 hq7)) (fun _ => (wr_X11_readsRecord_165 h_r_X11_reads h_r_X11_readsItems h_r_X11_readsRecord h_k43 ih hq7)))))) (fun _ => PF.none))) (fun _ => PF.none))) (fun _ => (wr_X11_readsRecord_165 h_r_X11_reads h_r_X11_readsItems h_r_X11_readsRecord h_k43 ih hq3)))))) (fun _ => PF.none))))) (fun _ => PF.none))))
theorem wr_X11_readsRecord_43 {s : ST} {r_X11_reads : Int32 → Int32 → Int32 → Int32 → Int32 → ST → Option (Int32 × ST)} {r_X11_readsItems : Int32 → Int32 → Int32 → Int32 → ST → Option (Int32 × ST)} {r_X11_readsRecord : Int32 → Int32 → Int32 → Int32 → ST → Option (Int32 × ST)} (h_r_X11_reads : ∀ (x1 : Int32) (x2 : Int32) (x3 : Int32) (x4 : Int32) (x5 : Int32) (σ : ST), KRB s σ → PF st1 (KRB s) (r_X11_reads x1 x2 x3 x4 x5 σ)) (h_r_X11_readsItems : ∀ (x1 : Int32) (x2 : Int32) (x3 : Int32) (x4 : Int32) (σ : ST), KRB s σ → PF st1 (KRB s) (r_X11_readsItems x1 x2 x3 x4 σ)) (h_r_X11_readsRecord : ∀ (x1 : Int32) (x2 : Int32) (x3 : Int32) (x4 : Int32) (σ : ST), KRB s σ → PF st1 (KRB s) (r_X11_readsRecord x1 x2 x3 x4 σ))  : ∀ (n : Nat) (x1 : Int32) (x2 : Int32) (x3 : Int32) (x4 : Int32) (x5 : Int32) (x6 : Int32) (x7 : Int32) (σ : ST), KRB s σ → PF st1 (KRB s) (f_X11_readsRecord_43 r_X11_reads r_X11_readsItems r_X11_readsRecord n x1 x2 x3 x4 x5 x6 x7 σ) := by
  intro n
  induction n with
  | zero => intro x1 x2 x3 x4 x5 x6 x7 σ h; rw [f_X11_readsRecord_43]; exact PF.none
  | succ n ih =>
    intro x1 x2 x3 x4 x5 x6 x7 σ h
    rw [f_X11_readsRecord_43]
    exact (PF.ite (fun _ => (PF.ite (fun _ => (wr_X11_readsRecord_217 h_r_X11_reads h_r_X11_readsItems h_r_X11_readsRecord _ _ _ _ _ _ _ h)) (fun _ => (PF.bnd (wr_X11_enters  h) (fun q2 hq2 => (wr_X11_readsRecord_83 h_r_X11_reads h_r_X11_readsItems h_r_X11_readsRecord ih _ _ _ _ _ _ _ _ _ _ _ _ _ hq2)))))) (fun _ => PF.none))
theorem wr_X11_readsRecord_38 {s : ST} {r_X11_reads : Int32 → Int32 → Int32 → Int32 → Int32 → ST → Option (Int32 × ST)} {r_X11_readsItems : Int32 → Int32 → Int32 → Int32 → ST → Option (Int32 × ST)} {r_X11_readsRecord : Int32 → Int32 → Int32 → Int32 → ST → Option (Int32 × ST)} {x1 : Int32} {x2 : Int32} {x3 : Int32} {x4 : Int32} {x5 : Int32} {y0 : Int32} {σ : ST} (h_r_X11_reads : ∀ (x1 : Int32) (x2 : Int32) (x3 : Int32) (x4 : Int32) (x5 : Int32) (σ : ST), KRB s σ → PF st1 (KRB s) (r_X11_reads x1 x2 x3 x4 x5 σ)) (h_r_X11_readsItems : ∀ (x1 : Int32) (x2 : Int32) (x3 : Int32) (x4 : Int32) (σ : ST), KRB s σ → PF st1 (KRB s) (r_X11_readsItems x1 x2 x3 x4 σ)) (h_r_X11_readsRecord : ∀ (x1 : Int32) (x2 : Int32) (x3 : Int32) (x4 : Int32) (σ : ST), KRB s σ → PF st1 (KRB s) (r_X11_readsRecord x1 x2 x3 x4 σ))  (h : KRB s σ) : PF st1 (KRB s) (f_X11_readsRecord_38 r_X11_reads r_X11_readsItems r_X11_readsRecord x1 x2 x3 x4 x5 y0 σ) := by
  unfold f_X11_readsRecord_38
  exact (wr_X11_readsRecord_43 h_r_X11_reads h_r_X11_readsItems h_r_X11_readsRecord _ _ _ _ _ _ _ _ _ h)
theorem wr_X11_readsRecord {s : ST} {r_X11_reads : Int32 → Int32 → Int32 → Int32 → Int32 → ST → Option (Int32 × ST)} {r_X11_readsItems : Int32 → Int32 → Int32 → Int32 → ST → Option (Int32 × ST)} {r_X11_readsRecord : Int32 → Int32 → Int32 → Int32 → ST → Option (Int32 × ST)} {p0 : Int32} {p1 : Int32} {p2 : Int32} {p3 : Int32} {σ : ST} (h_r_X11_reads : ∀ (x1 : Int32) (x2 : Int32) (x3 : Int32) (x4 : Int32) (x5 : Int32) (σ : ST), KRB s σ → PF st1 (KRB s) (r_X11_reads x1 x2 x3 x4 x5 σ)) (h_r_X11_readsItems : ∀ (x1 : Int32) (x2 : Int32) (x3 : Int32) (x4 : Int32) (σ : ST), KRB s σ → PF st1 (KRB s) (r_X11_readsItems x1 x2 x3 x4 σ)) (h_r_X11_readsRecord : ∀ (x1 : Int32) (x2 : Int32) (x3 : Int32) (x4 : Int32) (σ : ST), KRB s σ → PF st1 (KRB s) (r_X11_readsRecord x1 x2 x3 x4 σ))  (h : KRB s σ) : PF st1 (KRB s) (f_X11_readsRecord r_X11_reads r_X11_readsItems r_X11_readsRecord p0 p1 p2 p3 σ) := by
  unfold f_X11_readsRecord
  exact (PF.ite (fun _ => (PF.ite (fun _ => (PF.ite (fun _ => (wr_X11_readsRecord_38 h_r_X11_reads h_r_X11_readsItems h_r_X11_readsRecord h)) (fun _ => PF.none))) (fun _ => (wr_X11_readsRecord_38 h_r_X11_reads h_r_X11_readsItems h_r_X11_readsRecord h)))) (fun _ => PF.none))
theorem wrR_X11_reads {s : ST} : ∀ n : Nat, (∀ (p0 : Int32) (p1 : Int32) (p2 : Int32) (p3 : Int32) (p4 : Int32) (σ : ST), KRB s σ → PF st1 (KRB s) ((R_X11_reads n).1 p0 p1 p2 p3 p4 σ)) ∧ (∀ (p0 : Int32) (p1 : Int32) (p2 : Int32) (p3 : Int32) (σ : ST), KRB s σ → PF st1 (KRB s) ((R_X11_reads n).2.1 p0 p1 p2 p3 σ)) ∧ (∀ (p0 : Int32) (p1 : Int32) (p2 : Int32) (p3 : Int32) (σ : ST), KRB s σ → PF st1 (KRB s) ((R_X11_reads n).2.2 p0 p1 p2 p3 σ)) := by
  intro n
  induction n with
  | zero => exact ⟨fun _ _ _ _ _ _ _ => PF.none, fun _ _ _ _ _ _ => PF.none, fun _ _ _ _ _ _ => PF.none⟩
  | succ n ih => exact ⟨fun _ _ _ _ _ _ h => wr_X11_reads (ih.1) (ih.2.1) (ih.2.2)  h, fun _ _ _ _ _ h => wr_X11_readsItems (ih.1) (ih.2.1) (ih.2.2)  h, fun _ _ _ _ _ h => wr_X11_readsRecord (ih.1) (ih.2.1) (ih.2.2)  h⟩
theorem wr_T_X11_reads {s : ST} {p0 : Int32} {p1 : Int32} {p2 : Int32} {p3 : Int32} {p4 : Int32} {σ : ST} (h : KRB s σ) : PF st1 (KRB s) (f_T_X11_reads p0 p1 p2 p3 p4 σ) := (wrR_X11_reads FRB).1 _ _ _ _ _ _  h
/-! bytes and numbers that are read, both sides -/
theorem li_1600' : (1600 : Int32).toInt = 1600 := by decide
/-- both read the same message, at one place; nothing has failed -/
def RPS (b m : Nat) (σ τ : ST) : Prop := (σ.1 b 7 = 0 ∧ (σ.1 b 4).toInt = m ∧ m < 4) ∧ (σ.1 b 5 = τ.1 0 64 ∧ σ.1 b 6 = τ.1 0 65) ∧ ((τ.1 0 63).toInt = 400 * (m : Int) ∧ 0 ≤ (τ.1 0 64).toInt ∧ (τ.1 0 64).toInt ≤ (τ.1 0 65).toInt ∧ (τ.1 0 65).toInt ≤ 400) ∧ ∀ i : Nat, (i : Int) < (τ.1 0 65).toInt → σ.1 38 (400 * m + i) = τ.1 34 (400 * m + i)
/-- only the place moved -/
def PMA (b : Nat) (σ s : ST) : Prop := (∀ c, c ≠ b → s.1 c = σ.1 c) ∧ (∀ i, i ≠ 5 → s.1 b i = σ.1 b i) ∧ s.2 = σ.2
def PMB (τ t : ST) : Prop := (∀ c, c ≠ 0 → t.1 c = τ.1 c) ∧ (∀ i, i ≠ 64 → i ≠ 72 → t.1 0 i = τ.1 0 i) ∧ (∀ c, c ≠ 0 → t.2.1 c = τ.2.1 c)
/-- and nothing else of the reference at all -/
def PMS (τ t : ST) : Prop := (∀ c, c ≠ 0 → t.1 c = τ.1 c) ∧ (∀ i, i ≠ 64 → t.1 0 i = τ.1 0 i) ∧ t.2 = τ.2
theorem PMS.wk {τ t : ST} (h : PMS τ t) : PMB τ t := ⟨h.1, fun i a _ => h.2.1 i a, fun c _ => by rw [h.2.2]⟩
theorem PMA.rf {b : Nat} {σ : ST} : PMA b σ σ := ⟨fun _ _ => rfl, fun _ _ => rfl, rfl⟩
theorem PMB.rf {τ : ST} : PMB τ τ := ⟨fun _ _ => rfl, fun _ _ _ => rfl, fun _ _ => rfl⟩
theorem PMA.trans {b : Nat} {σ s u : ST} (h : PMA b σ s) (k : PMA b s u) : PMA b σ u := ⟨fun c a => (k.1 c a).trans (h.1 c a), fun i a => (k.2.1 i a).trans (h.2.1 i a), k.2.2.trans h.2.2⟩
theorem PMB.trans {σ s u : ST} (h : PMB σ s) (k : PMB s u) : PMB σ u := ⟨fun c a => (k.1 c a).trans (h.1 c a), fun i a d => (k.2.1 i a d).trans (h.2.1 i a d), fun c a => (k.2.2 c a).trans (h.2.2 c a)⟩
theorem PMB.l {τ t : ST} {i : Nat} {v : Int64} (h : PMB τ t) : PMB τ (stL t 0 i v) := ⟨h.1, h.2.1, fun c hc => by rw [stL_ne hc]; exact h.2.2 c hc⟩
theorem PMB.i72 {τ t : ST} {v : Int32} (h : PMB τ t) : PMB τ (stI t 0 72 v) := ⟨fun c hc => by rw [stI_ne hc]; exact h.1 c hc, fun i a d => by rw [stI_at, upN d]; exact h.2.1 i a d, h.2.2⟩
theorem RPS.l {b m : Nat} {σ τ : ST} {i : Nat} {v : Int64} (h : RPS b m σ τ) : RPS b m σ (stL τ 0 i v) := h
theorem RPS.i72 {b m : Nat} {σ τ : ST} {v : Int32} (h : RPS b m σ τ) : RPS b m σ (stI τ 0 72 v) := by
  unfold RPS at h ⊢
  rw [stI_at, upN (by omega), upN (by omega), upN (by omega), stI_ne (by omega)]
  exact h
/-- it failed, on both sides; or it went well -/
def RDO (b m : Nat) (σ τ s t : ST) (ok : Int32) (P : Prop) : Prop := (¬ s.1 b 7 = 0 ∧ ok = 0) ∨ (ok = 1 ∧ RPS b m s t ∧ (PMA b σ s ∧ PMB τ t) ∧ P)
theorem RDO.to {b m : Nat} {σ τ σ' τ' s t : ST} {ok : Int32} {P : Prop} (h : RDO b m σ' τ' s t ok P) (a : PMA b σ σ') (c : PMB τ τ') : RDO b m σ τ s t ok P := by
  rcases h with h | ⟨h1, h2, ⟨h3, h4⟩, h5⟩
  · exact .inl h
  · exact .inr ⟨h1, h2, ⟨a.trans h3, c.trans h4⟩, h5⟩
theorem q_fails36 : ∀ (n : Nat) (x : Int32) (τ : ST), QT (f_X11_fails_36 n x τ) (fun q => q.1 = 0) := by
  intro n
  induction n with
  | zero => intro x τ; exact QT.none
  | succ n ih =>
    intro x τ
    rw [f_X11_fails_36]
    exact QT.ite (fun _ => QT.ret rfl) (fun _ => QT.grd (fun _ => ih _ _))
theorem q_fails (p0 p1 : Int32) (τ : ST) : QT (f_X11_fails p0 p1 τ) (fun q => q.1 = 0) := by
  unfold f_X11_fails f_X11_fails_23 f_X11_fails_31
  exact QT.ite (fun _ => q_fails36 _ _ _) (fun _ => QT.ite (fun _ => q_fails36 _ _ _) (fun _ => q_fails36 _ _ _))
/-- behind a failure the class stays failed -/
theorem a_failed {b t : Nat} (hb : BT b t) (p0 p1 : Int32) (σ : ST) (h0 : ¬ p0 = 0) : QT (f_X4_fail b t p0 p1 σ) (fun s => ¬ s.1 b 7 = 0) := by
  unfold f_X4_fail f_X4_fail_29
  refine QT.ite (fun _ => QT.ite (fun _ => QT.ret ?_) (fun _ => QT.ite (fun _ => QT.ret ?_) (fun _ => QT.ret ?_))) (fun h => QT.ret h)
  · rw [stI_at, upN (by omega), stI_at, upN (by omega), stI_at, upA rfl]
    exact h0
  · rw [stI_at, upN (by omega), stI_at, upN (by omega), stI_at, upA rfl]
    exact h0
  · rw [stI_at, upN (by omega), stI_at, upA rfl]
    exact h0
theorem KRA.nz {b t : Nat} {σ s : ST} (h : KRA b t σ s) (h7 : ¬ σ.1 b 7 = 0) : ¬ s.1 b 7 = 0 := h.2.2.2.2.2 h7
theorem rd_byte {b t m : Nat} (hb : BT b t) {σ τ : ST} (h : RPS b m σ τ) : QT (f_X4_takeByte b t σ) (fun q => QT (f_X11_nextByte τ) (fun w => ¬ q.2.1 b 7 = 0 ∧ w.1.toInt < 0 ∨ (w.1 = q.1 ∧ 0 ≤ q.1.toInt ∧ q.1.toInt ≤ 255) ∧ RPS b m q.2 w.2 ∧ PMA b σ q.2 ∧ PMS τ w.2)) := by
  obtain ⟨⟨h7, h4, hm⟩, ⟨h5, h6⟩, ⟨hf, p0, p1, p2⟩, hB⟩ := h
  have hb' := hb
  unfold BT at hb'
  have l0 := li_0
  have l1 := li_1
  have lm := li_m1
  have l400 := li_400
  have l1600 := li_1600'
  unfold f_X4_takeByte f_X11_nextByte
  rw [if_pos h7]
  obtain ⟨k, hk⟩ : ∃ k : Nat, (τ.1 0 64).toInt = k := ⟨_, (Int.toNat_of_nonneg p0).symm⟩
  refine QT.ilt (fun hlt => ?_) (fun hge => ?_)
  · rw [h5, h6] at hlt
    have e4 : (σ.1 b 4 * 400).toInt = 400 * (m : Int) := by
      rw [Int32.mul_comm]
      have := mlE (k := 400) (y := σ.1 b 4) 400 l400 (by omega) (by omega)
      omega
    have h5' : (σ.1 b 5).toInt = k := by rw [h5]; exact hk
    have ea := il_addE (x := σ.1 b 4 * 400) (y := σ.1 b 5) (by omega) (by omega)
    have na : (σ.1 b 4 * 400 + σ.1 b 5).toNatClampNeg = 400 * m + k := nC (by omega)
    have hbyte : f_X1_byteOf (σ.1 b 4) (σ.1 b 5) σ = some ((σ.1 38 (400 * m + k)) &&& 255, σ) := by
      unfold f_X1_byteOf
      rw [if_neg (fun h => by have := il_lt h; omega), if_neg (fun h => by have := il_le h; omega), if_pos ⟨by omega, by omega⟩, na]
    rw [hbyte, sbnd]
    dsimp only
    refine QT.ret ?_
    refine QT.ieq (fun e => by omega) (fun _ => ?_)
    have e1 := il_addE (x := τ.1 0 64) (y := 1) (by omega) (by omega)
    have f1 : ∀ v : Int32, (stI τ 0 64 v).1 0 63 = τ.1 0 63 := fun v => by rw [stI_at, upN (by omega)]
    have f2 : ∀ v : Int32, (stI τ 0 64 v).1 0 64 = v := fun v => by rw [stI_at, upA rfl]
    have f3 : ∀ v : Int32, (stI τ 0 64 v).1 34 = τ.1 34 := fun v => stI_ne (by omega)
    have f4 : ∀ v : Int32, (stI τ 0 64 v).1 0 65 = τ.1 0 65 := fun v => by rw [stI_at, upN (by omega)]
    rw [f1, f2, f3]
    have e2 := il_addE (x := τ.1 0 63) (y := τ.1 0 64 + 1) (by omega) (by omega)
    have e3 := il_subE (x := τ.1 0 63 + (τ.1 0 64 + 1)) (y := 1) (by omega) (by omega)
    have nb : (τ.1 0 63 + (τ.1 0 64 + 1) - 1).toNatClampNeg = 400 * m + k := nC (by omega)
    refine QT.grd (fun _ => QT.ret ?_)
    rw [nb]
    have hk' := hB k (by omega)
    have hr := and255 (σ.1 38 (400 * m + k))
    refine .inr ⟨⟨by dsimp only; rw [hk'], ?_, ?_⟩, ?_, ?_, ?_⟩
    · show 0 ≤ (σ.1 38 (400 * m + k) &&& 255).toInt
      omega
    · show (σ.1 38 (400 * m + k) &&& 255).toInt ≤ 255
      omega
    · have g1 : ∀ v : Int32, ∀ i, i ≠ 5 → (stI σ b 5 v).1 b i = σ.1 b i := fun v i hi => by rw [stI_at, upN hi]
      have g2 : ∀ v : Int32, (stI σ b 5 v).1 b 5 = v := fun v => by rw [stI_at, upA rfl]
      have g3 : ∀ v : Int32, (stI σ b 5 v).1 38 = σ.1 38 := fun v => stI_ne (by omega)
      unfold RPS
      dsimp only
      rw [g1 _ 7 (by omega), g1 _ 4 (by omega), g1 _ 6 (by omega), g2, g3, f1, f2, f3, f4]
      exact ⟨⟨h7, h4, hm⟩, ⟨by rw [h5], h6⟩, ⟨hf, by omega, by omega, p2⟩, hB⟩
    · exact ⟨fun c hc => stI_ne hc, fun i hi => by dsimp only; rw [stI_at, upN hi], rfl⟩
    · exact ⟨fun c hc => stI_ne hc, fun i hi => by dsimp only; rw [stI_at, upN hi], rfl⟩
  · rw [h5, h6] at hge
    refine QT.bnd (a_failed hb 11 (σ.1 b 6) σ (by decide)) (fun s hs => QT.ret ?_)
    refine QT.ieq (fun _ => ?_) (fun e => by omega)
    refine QT.bnd (q_fails 11 (τ.1 0 65) τ) (fun w hw => QT.ret (.inl ⟨hs, ?_⟩))
    dsimp only
    omega
/-- a byte that is asked for behind a failure -/
theorem ad_byte {b t : Nat} (hb : BT b t) {σ : ST} (h : ¬ σ.1 b 7 = 0) : QT (f_X4_takeByte b t σ) (fun q => ¬ q.2.1 b 7 = 0) := fun q e => by
  have k : KRA b t σ q.2 := wr_X4_takeByte (B0 := b) (T0 := t) (s := σ) rfl (KRA.rf hb) q e
  exact k.nz h
theorem ad_num5 {b t : Nat} (hb : BT b t) {σ : ST} (h : ¬ σ.1 b 7 = 0) (n : Nat) (x1 : Int32) (x2 : Int64) (x4 : Int32) : QT (f_X4_takeNumber_5 b t n x1 x2 x4 σ) (fun q => ¬ q.2.1 b 7 = 0) := fun q e => by
  have k : KRA b t σ q.2 := wr_X4_takeNumber_5 (B0 := b) (T0 := t) (s := σ) rfl _ _ _ _ _ (KRA.rf hb) q e
  exact k.nz h
theorem ad_num70 {b t : Nat} {σ : ST} (h : ¬ σ.1 b 7 = 0) (x2 : Int64) : QT (f_X4_takeNumber_70 b t x2 σ) (fun q => ¬ q.2.1 b 7 = 0) := by
  unfold f_X4_takeNumber_70
  exact QT.ite (fun e => absurd e h) (fun _ => QT.ret h)
theorem ad_num38 {b t : Nat} (hb : BT b t) {σ : ST} (h : ¬ σ.1 b 7 = 0) (n : Nat) (x1 : Int32) (x2 : Int64) (x4 x5 : Int32) : QT (f_X4_takeNumber_38 (f_X4_takeNumber_5 b t n) b t x1 x2 x4 x5 σ) (fun q => ¬ q.2.1 b 7 = 0) := by
  unfold f_X4_takeNumber_38
  exact QT.ite (fun _ => ad_num5 hb h _ _ _ _) (fun _ => ad_num70 h _)
theorem rd_num5 {b t m : Nat} (hb : BT b t) (x1 : Int32) : ∀ (n : Nat) (M : Nat) (x2 : Int64) (x4 : Int32) (σ τ : ST), RPS b m σ τ → 0 ≤ x4.toInt → x4.toInt ≤ 9 → QT (f_X4_takeNumber_5 b t n x1 x2 x4 σ) (fun q => QT (f_X11_readsNumber_5 M x1 x2 x4 τ) (fun w => RDO b m σ τ q.2 w.2 w.1 (w.2.2.1 0 70 = q.1))) := by
  have l0 := li_0
  have l1 := li_1
  have l9 := li_9
  have l10 := li_10
  have l128 := li_128
  intro n
  induction n with
  | zero =>
    intro M x2 x4 σ τ _ _ _
    rw [f_X4_takeNumber_5]
    exact QT.none
  | succ n ih =>
    intro M x2 x4 σ τ h h0 h9
    cases M with
    | zero =>
      refine fun q _ => ?_
      rw [f_X11_readsNumber_5]
      exact QT.none
    | succ M =>
      rw [f_X4_takeNumber_5, f_X11_readsNumber_5]
      refine QT.ile (fun h => by omega) (fun _ => ?_)
      refine QT.sw ?_
      refine QT.ile (fun h => by omega) (fun _ => ?_)
      refine QT.sw ?_
      refine QT.bnd2 (rd_byte hb h) (fun q w hqw => ?_)
      rcases hqw with ⟨f1, f2⟩ | ⟨⟨e1, e2, e3⟩, hR, hA, hB⟩
      · have fin : ∀ z : Int64 × ST, ¬ z.2.1 b 7 = 0 → QT (if 0 ≤ w.1 then (if x4 = 9 then (if w.1 ≤ 1 then (f_X11_readsNumber_46 (f_X11_readsNumber_5 M) x1 x2 x4 w.1 w.2) else ((f_X11_fails 12 x1 w.2).bind fun q3 => if q3.1 = 0 ∨ q3.1 = 1 then some (q3.1, q3.2) else none)) else (f_X11_readsNumber_46 (f_X11_readsNumber_5 M) x1 x2 x4 w.1 w.2)) else (some (0, w.2))) (fun v => RDO b m σ τ z.2 v.2 v.1 (v.2.2.1 0 70 = z.1)) := fun z hz => by
          refine QT.ile (fun h => by omega) (fun _ => QT.ret (.inl ⟨hz, rfl⟩))
        refine QT.mono (P := fun z => ¬ z.2.1 b 7 = 0) ?_ fin
        refine QT.ite (fun _ => QT.ite (fun _ => ad_num38 hb f1 _ _ _ _ _) (fun _ => ?_)) (fun _ => ad_num38 hb f1 _ _ _ _ _)
        refine QT.bnd (a_failed hb 12 x1 q.2 (by decide)) (fun s hs => ?_)
        exact ad_num38 hb hs _ _ _ _ _
      · have e127 : (q.1 &&& 127).toInt64 = q.1.toInt64 &&& 127 := by
          rw [Int32.toInt64_and]
          rfl
        have go : x4.toInt ≤ 8 ∨ q.1.toInt ≤ 1 → QT (f_X4_takeNumber_38 (f_X4_takeNumber_5 b t n) b t x1 x2 x4 q.1 q.2) (fun z => QT (f_X11_readsNumber_46 (f_X11_readsNumber_5 M) x1 x2 x4 w.1 w.2) (fun v => RDO b m σ τ z.2 v.2 v.1 (v.2.2.1 0 70 = z.1))) := fun hc => by
          unfold f_X4_takeNumber_38 f_X11_readsNumber_46 f_X4_takeNumber_70
          rw [e1, e127]
          refine QT.ile (fun hle => ?_) (fun hlt => ?_)
          · refine QT.sw ?_
            refine QT.ile (fun _ => ?_) (fun h => by omega)
            refine QT.sw ?_
            have e4 := il_addE (x := x4) (y := 1) (by omega) (by omega)
            exact (ih M _ (x4 + 1) q.2 w.2 hR (by omega) (by omega)).mono2 (fun z v hz => hz.to hA hB.wk)
          · refine QT.ite (fun _ => QT.ret ?_) (fun h => absurd hR.1.1 h)
            refine QT.ile (fun h => by omega) (fun _ => ?_)
            refine QT.lt (fun z ez => QT.ret ?_)
            subst ez
            refine .inr ⟨rfl, hR.l, ⟨hA, hB.wk.l⟩, ?_⟩
            exact stL_at
        refine QT.ieq (fun h9 => ?_) (fun h9 => ?_)
        · refine QT.ile (fun hle => ?_) (fun hgt => ?_)
          · refine QT.sw ?_
            refine QT.ile (fun _ => ?_) (fun h => by rw [e1] at h; omega)
            refine QT.ieq (fun _ => ?_) (fun h => absurd h9 h)
            refine QT.ile (fun _ => ?_) (fun h => by rw [e1] at h; omega)
            refine QT.sw ?_
            exact go (.inr (by omega))
          · refine QT.mono (P := fun z => ¬ z.2.1 b 7 = 0) (QT.bnd (a_failed hb 12 x1 q.2 (by decide)) (fun s hs => ad_num38 hb hs _ _ _ _ _)) (fun z hz => ?_)
            refine QT.ile (fun _ => ?_) (fun h => by rw [e1] at h; omega)
            refine QT.ieq (fun _ => ?_) (fun h => absurd h9 h)
            refine QT.ile (fun h => by rw [e1] at h; omega) (fun _ => ?_)
            exact QT.bnd (q_fails 12 x1 w.2) (fun v hv => QT.grd (fun _ => QT.ret (.inl ⟨hz, hv⟩)))
        · refine QT.sw ?_
          refine QT.ile (fun _ => ?_) (fun h => by rw [e1] at h; omega)
          refine QT.ieq (fun h => absurd h h9) (fun _ => ?_)
          refine QT.sw ?_
          exact go (.inl (by omega))
theorem rd_number {b t m : Nat} (hb : BT b t) (p0 : Int32) (σ τ : ST) (h : RPS b m σ τ) : QT (f_X4_takeNumber b t p0 σ) (fun q => QT (f_X11_readsNumber p0 τ) (fun w => RDO b m σ τ q.2 w.2 w.1 (w.2.2.1 0 70 = q.1))) := by
  have l0 := li_0
  unfold f_X4_takeNumber f_X11_readsNumber
  exact rd_num5 hb p0 FU FU 0 0 σ τ h (by omega) (by omega)
/-- a count: whole, from 0 on -/
theorem rd_count {b t m : Nat} (hb : BT b t) (p0 p1 : Int32) (mx : Int64) (hmx : p1.toInt64 = mx) (σ τ : ST) (h : RPS b m σ τ) : QT (f_X4_takeCount b t p0 p1 σ) (fun q => QT (f_X11_readsInt p0 0 mx τ) (fun w => RDO b m σ τ q.2 w.2 w.1 (q.1 = (w.2.2.1 0 70).toInt32 ∧ 0 ≤ (w.2.2.1 0 70).toInt ∧ (w.2.2.1 0 70).toInt ≤ mx.toInt))) := by
  have l0 := li_0
  unfold f_X4_takeCount f_X11_readsInt
  rw [hmx]
  refine QT.bnd2 (rd_number hb p0 σ τ h) (fun q w hqw => ?_)
  rcases hqw with ⟨f1, f2⟩ | ⟨e0, hR, ⟨hA, hB⟩, e70⟩
  · refine QT.mono (P := fun z => ¬ z.2.1 b 7 = 0) ?_ (fun z hz => ?_)
    · have k26 : ∀ s : ST, ¬ s.1 b 7 = 0 → QT (f_X4_takeCount_26 b t q.1 s) (fun z => ¬ z.2.1 b 7 = 0) := fun s hs => by
        unfold f_X4_takeCount_26
        exact QT.ite (fun e => absurd e hs) (fun _ => QT.ret hs)
      have k19 : QT (f_X4_takeCount_19 b t p0 q.1 q.2) (fun z => ¬ z.2.1 b 7 = 0) := by
        unfold f_X4_takeCount_19
        exact QT.bnd (a_failed hb 12 p0 q.2 (by decide)) (fun s hs => k26 s hs)
      exact QT.ite (fun _ => k19) (fun _ => QT.ite (fun _ => k26 _ f1) (fun _ => k19))
    · refine QT.ite (fun _ => QT.ret (.inl ⟨hz, rfl⟩)) (fun h => absurd f2 h)
  · have bad : QT (f_X4_takeCount_19 b t p0 q.1 q.2) (fun z => ¬ z.2.1 b 7 = 0) := by
      unfold f_X4_takeCount_19 f_X4_takeCount_26
      exact QT.bnd (a_failed hb 12 p0 q.2 (by decide)) (fun s hs => QT.ite (fun e => absurd e hs) (fun _ => QT.ret hs))
    have badB : ∀ z : Int32 × ST, ¬ z.2.1 b 7 = 0 → QT ((f_X11_fails 12 p0 w.2).bind fun q5 => if q5.1 = 0 then (some (0, q5.2)) else (f_X11_readsInt_31 q5.2)) (fun v => RDO b m σ τ z.2 v.2 v.1 (z.1 = (v.2.2.1 0 70).toInt32 ∧ 0 ≤ (v.2.2.1 0 70).toInt ∧ (v.2.2.1 0 70).toInt ≤ mx.toInt)) := fun z hz => QT.bnd (q_fails 12 p0 w.2) (fun v hv => QT.ite (fun _ => QT.ret (.inl ⟨hz, rfl⟩)) (fun h => absurd hv h))
    have ne0 : ¬ w.1 = 0 := by rw [e0]; decide
    have hwi : ∀ Q : Int32 × ST → Option (Int32 × ST), ∀ P : Int32 × ST → Prop, ((lg_cmp q.1 0).toInt < (0 : Int32).toInt → QT (Q (0, w.2)) P) → ((0 : Int32).toInt ≤ (lg_cmp q.1 0).toInt → (0 : Int32).toInt < (lg_cmp q.1 mx).toInt → QT (Q (0, w.2)) P) → ((0 : Int32).toInt ≤ (lg_cmp q.1 0).toInt → (lg_cmp q.1 mx).toInt ≤ (0 : Int32).toInt → QT (Q (1, w.2)) P) → QT ((f_X11_within (w.2.2.1 0 70) 0 mx w.2).bind Q) P := fun Q P h1 h2 h3 => by
      unfold f_X11_within
      rw [e70]
      by_cases c1 : lg_cmp q.1 0 < 0
      · rw [if_pos c1, sbnd]
        exact h1 (il_lt c1)
      · rw [if_neg c1]
        by_cases c2 : 0 < lg_cmp q.1 mx
        · rw [if_pos c2, sbnd]
          exact h2 (il_nlt c1) (il_lt c2)
        · rw [if_neg c2, sbnd]
          exact h3 (il_nlt c1) (il_nlt c2)
    refine QT.ilt (fun c1 => bad.mono (fun z hz => ?_)) (fun c1 => QT.ile (fun c2 => ?_) (fun c2 => bad.mono (fun z hz => ?_)))
    · refine QT.ite (fun h => absurd h ne0) (fun _ => ?_)
      exact hwi _ _ (fun _ => QT.ite (fun _ => badB z hz) (fun h => absurd rfl h)) (fun h => by omega) (fun h => by omega)
    · unfold f_X4_takeCount_26
      refine QT.ite (fun _ => QT.ret ?_) (fun h => absurd hR.1.1 h)
      refine QT.ite (fun h => absurd h ne0) (fun _ => ?_)
      refine hwi _ _ (fun h => by omega) (fun _ h => by omega) (fun _ _ => ?_)
      refine QT.ite (fun h => absurd h one_ne) (fun _ => ?_)
      unfold f_X11_readsInt_31
      refine QT.ret (.inr ⟨rfl, hR, ⟨hA, hB⟩, ?_⟩)
      dsimp only
      rw [e70]
      have g1 := lgc_ge c1
      have g2 := lgc_le c2
      have z0 : (0 : Int64).toInt = 0 := by decide
      exact ⟨rfl, by omega, g2⟩
    · refine QT.ite (fun h => absurd h ne0) (fun _ => ?_)
      exact hwi _ _ (fun h => by omega) (fun _ _ => QT.ite (fun _ => badB z hz) (fun h => absurd rfl h)) (fun _ h => by omega)
/-! texts, reals and flags that are read -/
/-- so many letters, both ways -/
def LTR (i : Nat) (x y : Int64) : Prop := ∃ g : Nat → Nat, GL g i ∧ x.toInt = (n5 i g : Int) ∧ y.toInt = (n27 g i : Int)
theorem LTR.zero : LTR 0 0 0 := ⟨fun _ => 0, fun i hi => by omega, rfl, rfl⟩
theorem LTR.wlt {i : Nat} {x y : Int64} {n : Int32} (h : LTR i x y) (hi : i ≤ 12) (hn : n.toInt = i) : WLT x y n := by
  obtain ⟨g, h1, h2, h3⟩ := h
  exact ⟨i, g, hi, h1, h2, h3, hn⟩
theorem ltr_step {i : Nat} {x y : Int64} {c x5 : Int32} (h : LTR i x y) (hi : i < 12) (h5 : x5.toInt = i) (hc : 97 ≤ c.toInt ∧ c.toInt ≤ 122) : LTR (i + 1) (x ||| (((c - 97) + 1).toInt64 <<< ((5 * x5).toInt64 &&& 63))) (27 * y + c.toInt64 - 96) := by
  obtain ⟨g, hg, e1, e2⟩ := h
  have l1 := li_1
  have l97 := li_97
  have a1 := il_subE (x := c) (y := 97) (by omega) (by omega)
  have a2 := il_addE (x := c - 97) (y := 1) (by omega) (by omega)
  have n5e : x5 = Int32.ofNat i := ofNat_i h5 (by omega)
  obtain ⟨v, hv⟩ : ∃ v : Nat, (v : Int) = c.toInt - 96 := ⟨(c.toInt - 96).toNat, by omega⟩
  obtain ⟨f, hf⟩ : ∃ f : Nat → Nat, f = fun j => if j = i then v else g j := ⟨_, rfl⟩
  have f1 : f i = v := by rw [hf]; exact if_pos rfl
  have f2 : ∀ j, j < i → f j = g j := fun j hj => by rw [hf]; exact if_neg (by omega)
  have hF : GL f (i + 1) := fun j hj => by
    by_cases e : j = i
    · rw [e, f1]
      omega
    · rw [f2 j (by omega)]
      exact hg j (by omega)
  have x5e : n5 i f = n5 i g := n5_ext i f g f2
  have y5e : n27 f i = n27 g i := n27_ext f g i f2
  refine ⟨f, hF, ?_, ?_⟩
  · rw [n5_last, x5e, f1, n5e]
    exact or12 (k := i) e1 (by rw [i64, a2, a1]; omega) (by omega) hi (n5_lt i g hg) (sh12 i hi _)
  · show (27 * y + c.toInt64 - 96).toInt = ((27 * n27 f i + f i : Nat) : Int)
    rw [y5e, f1]
    have hl := n27_lt i g hg
    have p1 : (27 : Nat) ^ i ≤ 27 ^ 11 := Nat.pow_le_pow_right (by omega) (by omega)
    have p2 : (27 : Nat) ^ 11 = 5559060566555523 := by decide
    rw [p2] at p1
    have l27 : (27 : Int64).toInt = 27 := by decide
    have l96 : (96 : Int64).toInt = 96 := by decide
    have c1 : (27 * y).toInt = 27 * (n27 g i : Int) := by
      rw [Int64.toInt_mul, l27, e2]
      exact Int.bmod_eq_of_le (by omega) (by omega)
    have c2 : (27 * y + c.toInt64).toInt = 27 * (n27 g i : Int) + c.toInt := by
      rw [Int64.toInt_add, c1, i64]
      exact Int.bmod_eq_of_le (by omega) (by omega)
    rw [Int64.toInt_sub, c2, l96]
    rw [Int.bmod_eq_of_le (by omega) (by omega)]
    omega
theorem ad_let5 {b t : Nat} (hb : BT b t) {σ : ST} (h : ¬ σ.1 b 7 = 0) (n : Nat) (x1 x2 : Int32) (x3 : Int64) (x5 : Int32) : QT (f_X4_takeLetters_5 b t n x1 x2 x3 x5 σ) (fun q => ¬ q.2.1 b 7 = 0) := fun q e => by
  have k : KRA b t σ q.2 := wr_X4_takeLetters_5 (B0 := b) (T0 := t) (s := σ) rfl _ _ _ _ _ _ (KRA.rf hb) q e
  exact k.nz h
theorem ad_let45 {b t : Nat} (hb : BT b t) {σ : ST} (h : ¬ σ.1 b 7 = 0) (n : Nat) (x1 x2 : Int32) (x3 : Int64) (x5 x6 : Int32) : QT (f_X4_takeLetters_45 (f_X4_takeLetters_5 b t n) b t x1 x2 x3 x5 x6 σ) (fun q => ¬ q.2.1 b 7 = 0) := by
  unfold f_X4_takeLetters_45
  exact QT.lt (fun z _ => ad_let5 hb h _ _ _ _ _)
theorem ad_let38 {b t : Nat} (hb : BT b t) (σ : ST) (n : Nat) (x1 x2 : Int32) (x3 : Int64) (x5 x6 : Int32) : QT (f_X4_takeLetters_38 (f_X4_takeLetters_5 b t n) b t x1 x2 x3 x5 x6 σ) (fun q => ¬ q.2.1 b 7 = 0) := by
  unfold f_X4_takeLetters_38
  exact QT.bnd (a_failed hb 12 x1 σ (by decide)) (fun s hs => ad_let45 hb hs _ _ _ _ _ _)
theorem rd_let5 {b t m : Nat} (hb : BT b t) (x1 x2 : Int32) (h2 : 0 ≤ x2.toInt ∧ x2.toInt ≤ 12) : ∀ (n M i : Nat) (x3 : Int64) (x5 : Int32) (σ τ : ST), RPS b m σ τ → x5.toInt = i → LTR i x3 (τ.2.1 0 71) → (i : Int) ≤ x2.toInt → QT (f_X4_takeLetters_5 b t n x1 x2 x3 x5 σ) (fun q => QT (f_X11_readsText_32 M x1 x2 x5 τ) (fun w => RDO b m σ τ q.2 w.2 w.1 (w.2.1 0 72 = τ.1 0 72 ∧ ∃ k : Nat, (k : Int) = x2.toInt ∧ LTR k q.1 (w.2.2.1 0 71)))) := by
  have l0 := li_0
  have l1 := li_1
  have l97 := li_97
  have l122 := li_122
  intro n
  induction n with
  | zero =>
    intro M i x3 x5 σ τ _ _ _ _
    rw [f_X4_takeLetters_5]
    exact QT.none
  | succ n ih =>
    intro M i x3 x5 σ τ h h5 hL hi
    cases M with
    | zero =>
      refine fun q _ => ?_
      rw [f_X11_readsText_32]
      exact QT.none
    | succ M =>
      rw [f_X4_takeLetters_5, f_X11_readsText_32]
      refine QT.ile (fun hle => QT.ret ?_) (fun hlt => ?_)
      · refine QT.ile (fun _ => QT.ret (.inr ⟨rfl, h, ⟨PMA.rf, PMB.rf⟩, rfl, i, by omega, hL⟩)) (fun h => by omega)
      · refine QT.ite (fun _ => ?_) (fun h9 => absurd h.1.1 h9)
        refine QT.sw ?_
        refine QT.ile (fun h => by omega) (fun _ => ?_)
        refine QT.sw ?_
        refine QT.bnd2 (rd_byte hb h) (fun q w hqw => ?_)
        have z97 : (97 : Int64).toInt = 97 := by decide
        have z122 : (122 : Int64).toInt = 122 := by decide
        rcases hqw with ⟨f1, f2⟩ | ⟨⟨e1, e2, e3⟩, hR, hA, hB⟩
        · refine QT.mono (P := fun z => ¬ z.2.1 b 7 = 0) ?_ (fun z hz => ?_)
          · exact QT.ite (fun _ => ad_let38 hb _ _ _ _ _ _ _) (fun _ => QT.ite (fun _ => ad_let45 hb f1 _ _ _ _ _ _) (fun _ => ad_let38 hb _ _ _ _ _ _ _))
          · exact QT.ile (fun h => by omega) (fun _ => QT.ret (.inl ⟨hz, rfl⟩))
        · have bad : ¬ (97 ≤ q.1.toInt ∧ q.1.toInt ≤ 122) → QT (f_X4_takeLetters_38 (f_X4_takeLetters_5 b t n) b t x1 x2 x3 x5 q.1 q.2) (fun z => QT (if 0 ≤ w.1 then ((f_X11_isLetter w.1 w.2).bind fun q3 => if q3.1 = 0 then ((f_X11_fails 12 x1 q3.2).bind fun q5 => if q5.1 = 0 ∨ q5.1 = 1 then some (q5.1, q5.2) else none) else (f_X11_readsText_32 M x1 x2 (x5 + 1) (stL q3.2 0 71 (((27 * (q3.2.2.1 0 71)) + (w.1.toInt64)) - 96)))) else (some (0, w.2))) (fun v => RDO b m σ τ z.2 v.2 v.1 (v.2.1 0 72 = τ.1 0 72 ∧ ∃ k : Nat, (k : Int) = x2.toInt ∧ LTR k z.1 (v.2.2.1 0 71)))) := fun hn => by
            refine (ad_let38 hb _ _ _ _ _ _ _).mono (fun z hz => ?_)
            refine QT.ile (fun _ => ?_) (fun _ => QT.ret (.inl ⟨hz, rfl⟩))
            unfold f_X11_isLetter
            refine QT.bnd (Q := fun q3 : Int32 × ST => q3.1.toInt = 0) ?_ (fun q3 h3 => ?_)
            · refine QT.bndR (b_within w.1.toInt64 97 122 w.2) (fun v hv => QT.grd (fun _ => QT.ret ?_))
              rw [z97, z122, i64, e1] at hv
              rcases hv with hv | hv
              · exact hv.1
              · exact absurd hv.2 hn
            · refine QT.ieq (fun _ => ?_) (fun h => by omega)
              exact QT.bnd (q_fails 12 x1 q3.2) (fun v hv => QT.grd (fun _ => QT.ret (.inl ⟨hz, hv⟩)))
          refine QT.ilt (fun h => bad (by omega)) (fun hge => ?_)
          refine QT.ile (fun hle => ?_) (fun h => bad (by omega))
          refine QT.sw ?_
          refine QT.ile (fun _ => ?_) (fun h => by rw [e1] at h; omega)
          unfold f_X11_isLetter
          refine QT.bnd (Q := fun q3 : Int32 × ST => q3.1.toInt = 1 ∧ q3.2 = w.2) ?_ (fun q3 h3 => ?_)
          · refine QT.bndR (b_within w.1.toInt64 97 122 w.2) (fun v hv => QT.grd (fun _ => QT.ret ⟨?_, rfl⟩))
            rw [z97, z122, i64, e1] at hv
            rcases hv with hv | hv
            · exact absurd ⟨by omega, by omega⟩ hv.2
            · exact hv.1
          · refine QT.ieq (fun h => by omega) (fun _ => ?_)
            refine QT.sw ?_
            rw [h3.2, e1]
            unfold f_X4_takeLetters_45
            refine QT.lt (fun z ez => ?_)
            subst ez
            have e5 := il_addE (x := x5) (y := 1) (by omega) (by omega)
            have e71 : w.2.2.1 0 71 = τ.2.1 0 71 := by rw [hB.2.2]
            have hs := ltr_step (x5 := x5) (c := q.1) hL (by omega) h5 ⟨by omega, by omega⟩
            refine (ih M (i + 1) _ (x5 + 1) q.2 _ hR.l (by omega) ?_ (by omega)).mono2 (fun z v hz => ?_)
            · rw [stL_at, e71]
              exact hs
            · rcases hz with hz | ⟨z1, z2, ⟨z3, z4⟩, z5, z6⟩
              · exact .inl hz
              · exact .inr ⟨z1, z2, ⟨hA.trans z3, hB.wk.l.trans z4⟩, z5.trans (hB.2.1 72 (by omega)), z6⟩
/-- a text: how many letters, and they -/
theorem rd_text {b t m : Nat} (hb : BT b t) (p0 : Int32) (σ τ : ST) (h : RPS b m σ τ) : QT ((f_X4_takeCount b t p0 12 σ).bind fun q24 => (f_X4_takeLetters b t p0 q24.1 q24.2).bind fun q26 => some ((q24.1, q26.1), q26.2)) (fun q => QT (f_X11_readsText p0 τ) (fun w => RDO b m σ τ q.2 w.2 w.1 (WLT q.1.2 (w.2.2.1 0 71) q.1.1 ∧ w.2.1 0 72 = q.1.1))) := by
  have l0 := li_0
  have z12 : (12 : Int32).toInt64 = 12 := by decide
  have z12' : (12 : Int64).toInt = 12 := by decide
  unfold f_X11_readsText
  refine QT.bnd2 (rd_count hb p0 12 12 z12 σ τ h) (fun q w hqw => ?_)
  rcases hqw with ⟨f1, f2⟩ | ⟨e0, hR, ⟨hA, hB⟩, e1, e2, e3⟩
  · unfold f_X4_takeLetters
    refine QT.bnd (ad_let5 hb f1 _ _ _ _ _) (fun z hz => QT.ret ?_)
    exact QT.ite (fun _ => QT.ret (.inl ⟨hz, rfl⟩)) (fun h => absurd f2 h)
  · have ei : q.1.toInt = (w.2.2.1 0 70).toInt := by
      rw [e1]
      show (w.2.2.1 0 70).toInt32.toInt = _
      rw [Int64.toInt_toInt32]
      exact Int.bmod_eq_of_le (by omega) (by omega)
    refine QT.sw ?_
    refine QT.ite (fun h => absurd (h.symm.trans e0) (by decide)) (fun _ => ?_)
    refine QT.sw ?_
    rw [← e1]
    have hst : ∀ z : Int32 × ST, z = z := fun _ => rfl
    unfold f_X4_takeLetters
    obtain ⟨τ1, hτ1⟩ : ∃ τ1, τ1 = stI (stL w.2 0 71 0) 0 72 q.1 := ⟨_, rfl⟩
    rw [← hτ1]
    have hR1 : RPS b m q.2 τ1 := by rw [hτ1]; exact hR.l.i72
    have e71 : τ1.2.1 0 71 = 0 := by
      rw [hτ1]
      exact stL_at
    have e72 : τ1.1 0 72 = q.1 := by rw [hτ1, stI_at, upA rfl]
    have hB1 : PMB τ τ1 := by rw [hτ1]; exact hB.l.i72
    refine QT.sw ?_
    refine QT.mono (P := fun w' => QT (f_X4_takeLetters_5 b t FU p0 q.1 0 0 q.2) (fun z => RDO b m q.2 τ1 z.2 w'.2 w'.1 (w'.2.1 0 72 = τ1.1 0 72 ∧ ∃ k : Nat, (k : Int) = q.1.toInt ∧ LTR k z.1 (w'.2.2.1 0 71)))) (QT.sw (rd_let5 hb p0 q.1 ⟨by omega, by omega⟩ FU FU 0 0 0 q.2 τ1 hR1 l0 (by rw [e71]; exact LTR.zero) (by omega))) (fun w' hw' => ?_)
    refine QT.bnd hw' (fun z hz => QT.ret ?_)
    rcases hz with hz | ⟨z1, z2, ⟨z3, z4⟩, z5, k, z6, z7⟩
    · exact .inl hz
    · exact .inr ⟨z1, z2, ⟨hA.trans z3, hB1.trans z4⟩, z7.wlt (by omega) (show q.1.toInt = (k : Int) by omega), z5.trans e72⟩
/-! reals -/
theorem nan_abs (x : Int64) : (x &&& 9223372036854775807).toInt = ((x.toBitVec.toNat % 2 ^ 63 : Nat) : Int) := by
  have h1 : (x &&& 9223372036854775807).toBitVec.toNat = x.toBitVec.toNat % 2 ^ 63 := by
    show (x.toBitVec &&& (9223372036854775807 : Int64).toBitVec).toNat = _
    rw [BitVec.toNat_and]
    exact Nat.and_two_pow_sub_one_eq_mod x.toBitVec.toNat 63
  have h2 := Nat.mod_lt x.toBitVec.toNat (show 0 < 2 ^ 63 by decide)
  have h3 : (2 : Nat) ^ 63 = 9223372036854775808 := by decide
  show (x &&& 9223372036854775807).toBitVec.toInt = _
  rw [BitVec.toInt_eq_toNat_of_lt (by rw [h1]; omega), h1]
theorem dtl_nan {x : UInt64} (h : FP.Core.dIsNaN x = true) : DTL x 9221120237041090560 := by
  intro σ
  unfold f_Jxe99ae_doubleToLongBits_ccdee f_Jxe99ae_isNaN_b9ae7
  have e : FP.dcmp x x = none := (FP.Core.dcmp_none x x).mpr (Or.inl ((FP.Core.dIsNaN_iff x).mp h))
  rw [e]
  rfl
theorem dtl_real (x : Int64) {σ : ST} {b t : Nat} : QT (if (lg_cmp (x &&& 9223372036854775807) 9218868437227405312) ≤ 0 then (f_X4_takeReal_44 b t x 0 σ) else (f_X4_takeReal_44 b t x 1 σ)) (fun q => q.2 = σ ∧ DTL x.toUInt64 q.1) := by
  have l0 := li_0
  have l1 := li_1
  have zc : (9218868437227405312 : Int64).toInt = 9218868437227405312 := by decide
  have ht : x.toUInt64.toNat = x.toBitVec.toNat := rfl
  have hb := FP.Core.isNaN_bits x.toUInt64
  rw [ht] at hb
  have ha := nan_abs x
  have hc : (9218868437227405312 : Nat) = 0x7ff0000000000000 := by decide
  unfold f_X4_takeReal_44
  refine QT.ile (fun hle => ?_) (fun hgt => ?_)
  · refine QT.ieq (fun _ => QT.ret ⟨rfl, ?_⟩) (fun h => absurd rfl h)
    have g := lgc_le hle
    rw [ha, zc] at g
    refine dtl_num (fun h => ?_)
    have := hb.mp ((FP.Core.dIsNaN_iff _).mpr h)
    omega
  · refine QT.ieq (fun h => by omega) (fun _ => QT.ret ⟨rfl, ?_⟩)
    have g : (9218868437227405312 : Int) < (x &&& 9223372036854775807).toInt := by
      have k := lgc_ge (x := x &&& 9223372036854775807) (y := 9218868437227405312) (by omega)
      rw [zc] at k
      by_cases e : (x &&& 9223372036854775807).toInt = 9218868437227405312
      · have e' : x &&& 9223372036854775807 = 9218868437227405312 := Int64.toInt_inj.mp (by rw [e, zc])
        have e2 : lg_cmp (x &&& 9223372036854775807) 9218868437227405312 = 0 := by
          rw [lg_cmp_eq]
          exact e'
        rw [e2] at hgt
        omega
      · omega
    rw [ha] at g
    refine dtl_nan (hb.mpr ?_)
    omega
theorem ad_real4 {b t : Nat} (hb : BT b t) {σ : ST} (h : ¬ σ.1 b 7 = 0) (n : Nat) (x1 : Int64) (x3 : Int32) : QT (f_X4_takeReal_4 b t n x1 x3 σ) (fun q => ¬ q.2.1 b 7 = 0) := fun q e => by
  have k : KRA b t σ q.2 := wr_X4_takeReal_4 (B0 := b) (T0 := t) (s := σ) rfl _ _ _ _ (KRA.rf hb) q e
  exact k.nz h
theorem rd_real4 {b t m : Nat} (hb : BT b t) : ∀ (n M : Nat) (x1 : Int64) (x3 : Int32) (σ τ : ST), RPS b m σ τ → x1 = τ.2.1 0 70 → QT (f_X4_takeReal_4 b t n x1 x3 σ) (fun q => QT (f_X11_readsReal_7 M x3 τ) (fun w => RDO b m σ τ q.2 w.2 w.1 (DTL (w.2.2.1 0 70).toUInt64 q.1))) := by
  have l0 := li_0
  intro n
  induction n with
  | zero =>
    intro M x1 x3 σ τ _ _
    rw [f_X4_takeReal_4]
    exact QT.none
  | succ n ih =>
    intro M x1 x3 σ τ h h1
    cases M with
    | zero =>
      refine fun q _ => ?_
      rw [f_X11_readsReal_7]
      exact QT.none
    | succ M =>
      rw [f_X4_takeReal_4, f_X11_readsReal_7]
      refine QT.ile (fun hle => ?_) (fun hlt => ?_)
      · refine (dtl_real x1).mono (fun q hq => ?_)
        refine QT.ile (fun _ => QT.ret (.inr ⟨rfl, ?_, ⟨?_, PMB.rf⟩, ?_⟩)) (fun h => by omega)
        · rw [hq.1]
          exact h
        · rw [hq.1]
          exact PMA.rf
        · dsimp only
          rw [← h1]
          exact hq.2
      · refine QT.sw ?_
        refine QT.ile (fun h => by omega) (fun _ => ?_)
        refine QT.sw ?_
        refine QT.bnd2 (rd_byte hb h) (fun q w hqw => ?_)
        rcases hqw with ⟨f1, f2⟩ | ⟨⟨e1, e2, e3⟩, hR, hA, hB⟩
        · refine (ad_real4 hb f1 _ _ _).mono (fun z hz => ?_)
          exact QT.ile (fun h => by omega) (fun _ => QT.ret (.inl ⟨hz, rfl⟩))
        · refine QT.sw ?_
          refine QT.ile (fun _ => ?_) (fun h => by rw [e1] at h; omega)
          refine QT.sw ?_
          refine (ih M _ (x3 + 1) q.2 _ hR.l ?_).mono2 (fun z v hz => hz.to hA hB.wk.l)
          rw [stL_at, e1, h1, hB.2.2]
theorem rd_real {b t m : Nat} (hb : BT b t) (σ τ : ST) (h : RPS b m σ τ) : QT (f_X4_takeReal b t σ) (fun q => QT (f_X11_readsReal τ) (fun w => RDO b m σ τ q.2 w.2 w.1 (DTL (w.2.2.1 0 70).toUInt64 q.1))) := by
  unfold f_X4_takeReal f_X11_readsReal
  exact (rd_real4 hb FU FU 0 0 σ (stL τ 0 70 0) h.l stL_at.symm).mono2 (fun z v hz => hz.to PMA.rf PMB.rf.l)
/-- a whole number's bits, as a real -/
theorem whole_bits (v : Int64) (σ : ST) : QT (f_X10_bitsOfWhole v σ) (fun q => q.2 = σ ∧ DTL (FP.l2d v) q.1) := by
  have z0 : (0 : Int64).toInt = 0 := by decide
  have l0 := li_0
  unfold f_X10_bitsOfWhole
  refine QT.ilt (fun hlt => ?_) (fun hge => ?_)
  · have hv : v.toInt < 0 := by
      by_cases h : v.toInt < 0
      · exact h
      · have := Int32.le_iff_toInt_le.mp ((lg_cmp_ge v 0).mpr (Int64.le_iff_toInt_le.mpr (by omega)))
        omega
    obtain ⟨c, q, e1, e2, e3, e4⟩ := l2d_fin v (by omega)
    rw [decide_eq_true hv] at e1
    have nn : ¬ FP.Core.val64 (FP.l2d v) = .nan := by
      rw [e1]
      exact fun h => by cases h
    have y1 : FP.Core.val64 (FP.dneg (FP.l2d v)) = .fin false c q := by
      rw [FP.val64_dneg, e1]
      rfl
    have F : FPN (FP.dneg (FP.l2d v)) c q := ⟨y1, e2, by omega, by omega⟩
    have c1 : FP.dneg (FP.l2d v) = FP.Core.dneg (FP.l2d v) := FP.Core.val64_inj F.nn (by rw [y1, FP.Core.val64_dneg, e1]; rfl)
    have ey : FP.dsub FP.dconst0 (FP.l2d v) = FP.dneg (FP.l2d v) := by
      show FP.Core.dsub FP.Core.dconst0 (FP.l2d v) = _
      rw [FP.Core.dsub_eq, ← c1, FP.Core.dadd_comm]
      exact FP.Core.dadd_zero F.nn F.nz
    rw [ey]
    refine QT.grd (fun _ => ?_)
    refine QT.bndR (fp_pos _ σ F ⟨by omega, by omega⟩) (fun w hw => QT.ret ⟨rfl, ?_⟩)
    dsimp only
    have dd : FP.dneg (FP.dneg (FP.l2d v)) = FP.l2d v := (FP.Core.val64_inj nn (by rw [FP.val64_dneg, y1, e1]; rfl)).symm
    rw [hw, ← F.neg_bits, dd]
    exact dtl_num nn
  · have hv := lgc_ge hge
    rw [z0] at hv
    by_cases h0 : v.toInt = 0
    · have e : v = 0 := Int64.toInt_inj.mp (by rw [h0]; rfl)
      rw [e, l2d_0, fp_zero, sbnd]
      dsimp only
      have n0 : ¬ FP.Core.val64 0 = .nan := by decide +kernel
      exact QT.ret ⟨rfl, dtl_num n0⟩
    · obtain ⟨c, q, F, q1, q2⟩ := l2d_pos v (by omega)
      refine QT.bndR (fp_pos _ σ F ⟨by omega, by omega⟩) (fun w hw => QT.ret ⟨rfl, ?_⟩)
      dsimp only
      rw [hw]
      exact dtl_num F.nn
/-! a plain value that is read, both sides -/
/-- a node's own columns, as they are told -/
def LFS (t : ST) (x : Nat) (bits txt : Int64) (many : Int32) : ST := stI (stL (stL t 21 x bits) 22 x txt) 23 x many
theorem b_229 (xB ok many : Int32) (t : ST) {x : Nat} (hx : xB.toInt = x) (h1 : ok = 1) : QT (f_X11_readsLeaf_229 ok many xB t) (fun q => q = (1, stI t 23 x many)) := by
  have nx : xB.toNatClampNeg = x := nC hx
  unfold f_X11_readsLeaf_229
  rw [nx, h1]
  exact QT.grd (fun _ => QT.grd (fun _ => QT.ret rfl))
theorem b_189 (xB s : Int32) (bits : Int64) (t : ST) {x : Nat} (hx : xB.toInt = x) (h5 : ¬ s.toInt = 5) : QT (f_X11_readsLeaf_189 xB 1 s bits xB t) (fun q => q = (1, LFS t x bits 0 0)) := by
  have nx : xB.toNatClampNeg = x := nC hx
  have l5 := li_5
  unfold f_X11_readsLeaf_189 f_X11_readsLeaf_209
  rw [nx]
  refine QT.grd (fun _ => QT.ieq (fun h => by omega) (fun _ => QT.grd (fun _ => QT.ieq (fun h => by omega) (fun _ => ?_))))
  exact b_229 xB 1 0 _ hx rfl
theorem b_189t (xB s : Int32) (bits : Int64) (t : ST) {x : Nat} (hx : xB.toInt = x) (h5 : s.toInt = 5) : QT (f_X11_readsLeaf_189 xB 1 s bits xB t) (fun q => q = (1, LFS t x bits (t.2.1 0 71) (t.1 0 72))) := by
  have nx : xB.toNatClampNeg = x := nC hx
  have l5 := li_5
  have e71 : (stL t 21 x bits).2.1 0 71 = t.2.1 0 71 := by rw [stL_ne (by omega)]
  unfold f_X11_readsLeaf_189 f_X11_readsLeaf_209
  rw [nx]
  refine QT.grd (fun _ => QT.ieq (fun _ => ?_) (fun h => by omega))
  refine QT.grd (fun _ => QT.ieq (fun _ => ?_) (fun h => by omega))
  rw [e71]
  exact b_229 xB 1 _ _ hx rfl
/-- the sorts of a plain value as it is written and as it is read -/
def PLS (s r : Int) : Prop := (r = 4 → 2 ≤ s ∧ s ≤ 4) ∧ (s = 4 → r = 4) ∧ (s = 5 ↔ r = 5)
theorem ad_plain137 {b t : Nat} (hb : BT b t) {σ : ST} (h : ¬ σ.1 b 7 = 0) (x1 x2 x3 x4 x6 : Int32) (x7 : Int64) : QT (f_X4_takePlain_137 b t x1 x2 x3 x4 x6 x7 σ) (fun q => ¬ q.1 b 7 = 0) := fun q e => by
  have k : KRA b t σ q := wr_X4_takePlain_137 (B0 := b) (T0 := t) (s := σ) rfl rfl (KRA.rf hb) q e
  exact k.nz h
theorem rd_leaf {b t m : Nat} (hb : BT b t) (s r y p2 p3 u v xB : Int32) {σ τ : ST} (h : RPS b m σ τ) (hu : 0 ≤ u.toInt ∧ u.toInt < 800) (hs : τ.1 2 u.toNatClampNeg = s) (hs5 : 0 ≤ s.toInt ∧ s.toInt ≤ 5) (hso : ∀ z, PMA b σ z → f_X5_sortOf 4 y z = some (r, z)) (x : Nat) (hy : y = -1 ∧ xB.toInt < 0 ∧ ¬ r.toInt = 4 ∨ ¬ y = -1 ∧ xB.toInt = x ∧ (0 ≤ v.toInt ∧ v.toInt < 800) ∧ τ.1 2 v.toNatClampNeg = r ∧ PLS s.toInt r.toInt) {P : ST → Int32 × ST → Prop} (hF : ∀ z w, ¬ z.1 b 7 = 0 → w.1 = 0 → P z w) (hK1 : y = -1 → ∀ (s' t' : ST) (w : Int64) (n : Int32), RPS b m s' t' → PMA b σ s' → PMB τ t' → QT (f_X4_takePlain_183 b t w n p3 p2 y s') (fun z => P z (1, t'))) (hK2 : ¬ y = -1 → ∀ (s' t' : ST) (w : Int64) (n : Int32) (bits txt : Int64) (many : Int32), RPS b m s' t' → PMA b σ s' → PMB τ t' → EWR r.toInt w bits txt many → n.toInt = many.toInt → QT (f_X4_takePlain_183 b t w n p3 p2 y s') (fun z => P z (1, LFS t' x bits txt many))) : QT (f_X4_takePlain b t s y p2 p3 σ) (fun z => QT (f_X11_readsLeaf u v xB τ) (P z)) := by
  have l0 := li_0
  have l1 := li_1
  have l2 := li_2
  have l3 := li_3
  have l4 := li_4
  have l5 := li_5
  -- what comes behind the bytes
  have bad : ∀ (s' t' : ST) (n : Int32) (w : Int64), ¬ s'.1 b 7 = 0 → QT (f_X4_takePlain_137 b t s y p2 p3 n w s') (fun z => QT (f_X11_readsLeaf_108 v xB 0 s t') (P z)) := fun s' t' n w h7 => by
    refine (ad_plain137 hb h7 _ _ _ _ _ _).mono (fun z hz => ?_)
    unfold f_X11_readsLeaf_108
    exact QT.ite (fun _ => QT.grd (fun _ => QT.ret (hF _ _ hz rfl))) (fun h => absurd rfl h)
  have one : ∀ (s' t' : ST) (n : Int32) (w : Int64), RPS b m s' t' → PMA b σ s' → PMB τ t' → n.toInt = (if s.toInt = 5 then (t'.1 0 72).toInt else 0) → (s.toInt = 5 → WLT w (t'.2.1 0 71) (t'.1 0 72)) → (s.toInt = 4 → DTL (t'.2.1 0 70).toUInt64 w) → (¬ s.toInt = 4 → ¬ s.toInt = 5 → t'.2.1 0 70 = w) → QT (f_X4_takePlain_137 b t s y p2 p3 n w s') (fun z => QT (f_X11_readsLeaf_108 v xB 1 s t') (P z)) := fun s' t' n w hR hA hB hn h5 h4 hw => by
    have t2 : t'.1 2 = τ.1 2 := hB.1 2 (by omega)
    rcases hy with ⟨y1, y2, y3⟩ | ⟨y1, y2, y3, y4, y5, y6, y7⟩
    · have hq : ∀ w' : Int64, QT (f_X4_takePlain_183 b t w' n p3 p2 y s') (fun z => QT (f_X11_readsLeaf_108 v xB 1 s t') (P z)) := fun w' => by
        refine (hK1 y1 s' t' w' n hR hA hB).mono (fun z hz => ?_)
        unfold f_X11_readsLeaf_108
        refine QT.ite (fun h => absurd h one_ne) (fun _ => ?_)
        exact QT.ilt (fun _ => QT.grd (fun _ => QT.ret hz)) (fun h => by omega)
      unfold f_X4_takePlain_137 f_X4_takePlain_158 f_X4_takePlain_159
      refine QT.ieq (fun _ => QT.ite (fun _ => hq w) (fun h => absurd rfl h)) (fun _ => ?_)
      rw [hso s' hA, sbnd]
      dsimp only
      exact QT.ieq (fun h => by omega) (fun _ => QT.ite (fun _ => hq w) (fun h => absurd rfl h))
    · have hst : ∀ (w' bits txt : Int64) (many : Int32), EWR r.toInt w' bits txt many → n.toInt = many.toInt → (∀ Q : Int32 × ST → Prop, Q (1, LFS t' x bits txt many) → QT (f_X11_readsLeaf_108 v xB 1 s t') Q) → QT (f_X4_takePlain_183 b t w' n p3 p2 y s') (fun z => QT (f_X11_readsLeaf_108 v xB 1 s t') (P z)) := fun w' bits txt many h1 h2 h3 => (hK2 y1 s' t' w' n bits txt many hR hA hB h1 h2).mono (fun z hz => h3 _ hz)
      have h108 : ∀ Q : Int32 × ST → Prop, QT (if (τ.1 2 v.toNatClampNeg) = 4 then (f_X11_readsLeaf_132 xB 1 s 1 t') else (f_X11_readsLeaf_132 xB 1 s 0 t')) Q → QT (f_X11_readsLeaf_108 v xB 1 s t') Q := fun Q h9 => by
        unfold f_X11_readsLeaf_108
        refine QT.ite (fun h => absurd h one_ne) (fun _ => ?_)
        refine QT.ilt (fun h => by omega) (fun _ => QT.grd (fun _ => ?_))
        rw [t2]
        exact h9
      rw [y4] at h108
      unfold f_X4_takePlain_137 f_X4_takePlain_158 f_X4_takePlain_159
      refine QT.ieq (fun s4 => QT.ite (fun _ => ?_) (fun h => absurd rfl h)) (fun s4 => ?_)
      · -- a real
        have r4 := y6 (by omega)
        refine hst w w 0 0 ?_ ?_ (fun Q hQ => h108 Q ?_)
        · unfold EWR
          rw [if_neg (by omega)]
          exact ⟨rfl, rfl, rfl⟩
        · rw [hn, if_neg (by omega)]
          rfl
        · refine QT.ieq (fun _ => ?_) (fun h => by omega)
          unfold f_X11_readsLeaf_132 f_X11_readsLeaf_155
          refine QT.ieq (fun _ => QT.ieq (fun h => by omega) (fun _ => QT.ite (fun h => absurd h one_ne) (fun _ => ?_))) (fun h => by omega)
          rw [h4 (by omega) t', sbnd]
          dsimp only
          exact (b_189 xB s w t' y2 (by omega)).mono (fun q hq => by rw [hq]; exact hQ)
      rw [hso s' hA, sbnd]
      dsimp only
      refine QT.ieq (fun r4 => QT.ite (fun h => absurd h one_ne) (fun _ => ?_)) (fun r4 => QT.ite (fun _ => ?_) (fun h => absurd rfl h))
      · -- a whole number read as a real
        have hs' := y5 (by omega)
        have e70 := hw (by omega) (by omega)
        refine QT.bnd (whole_bits w s') (fun q hq => ?_)
        obtain ⟨q1, q2⟩ := hq
        rw [q1]
        refine hst q.1 q.1 0 0 ?_ ?_ (fun Q hQ => h108 Q ?_)
        · unfold EWR
          rw [if_neg (by omega)]
          exact ⟨rfl, rfl, rfl⟩
        · rw [hn, if_neg (by omega)]
          rfl
        · refine QT.ieq (fun _ => ?_) (fun h => by omega)
          unfold f_X11_readsLeaf_132 f_X11_readsLeaf_155
          refine QT.ieq (fun h => by omega) (fun _ => QT.ieq (fun h => by omega) (fun _ => QT.ite (fun h => absurd h one_ne) (fun _ => ?_)))
          rw [e70, q2 t', sbnd]
          dsimp only
          exact (b_189 xB s q.1 t' y2 (by omega)).mono (fun q' hq' => by rw [hq']; exact hQ)
      · by_cases s5 : s.toInt = 5
        · refine hst w 0 (t'.2.1 0 71) (t'.1 0 72) ?_ ?_ (fun Q hQ => h108 Q ?_)
          · unfold EWR
            rw [if_pos (y7.mp s5)]
            exact ⟨rfl, h5 s5⟩
          · rw [hn, if_pos s5]
          · refine QT.ieq (fun h => by omega) (fun _ => ?_)
            unfold f_X11_readsLeaf_132 f_X11_readsLeaf_155
            refine QT.ieq (fun h => by omega) (fun _ => QT.ieq (fun _ => ?_) (fun h => by omega))
            exact (b_189t xB s 0 t' y2 s5).mono (fun q hq => by rw [hq]; exact hQ)
        · refine hst w w 0 0 ?_ ?_ (fun Q hQ => h108 Q ?_)
          · unfold EWR
            rw [if_neg (fun h => s5 (y7.mpr h))]
            exact ⟨rfl, rfl, rfl⟩
          · rw [hn, if_neg s5]
            rfl
          · refine QT.ieq (fun h => by omega) (fun _ => ?_)
            unfold f_X11_readsLeaf_132 f_X11_readsLeaf_155
            refine QT.ieq (fun h => by omega) (fun _ => QT.ieq (fun h => by omega) (fun _ => QT.ite (fun _ => ?_) (fun h => absurd rfl h)))
            rw [hw (by omega) s5]
            exact (b_189 xB s w t' y2 s5).mono (fun q hq => by rw [hq]; exact hQ)
  -- the bytes
  have n0 : ∀ t' : ST, ¬ s.toInt = 5 → (0 : Int32).toInt = (if s.toInt = 5 then (t'.1 0 72).toInt else 0) := fun t' h => by rw [if_neg h]; exact l0
  unfold f_X4_takePlain f_X11_readsLeaf
  rw [hs]
  have h0 : RPS b m σ (stL τ 0 70 0) := h.l
  have e64 : τ.1 0 64 = σ.1 b 5 := h.2.1.1.symm
  have cont : ∀ (q : ST) (w : Int32 × ST) (n : Int32) (v' : Int64), RDO b m σ (stL τ 0 70 0) q w.2 w.1 (n.toInt = (if s.toInt = 5 then (w.2.1 0 72).toInt else 0) ∧ (s.toInt = 5 → WLT v' (w.2.2.1 0 71) (w.2.1 0 72)) ∧ (s.toInt = 4 → DTL (w.2.2.1 0 70).toUInt64 v') ∧ (¬ s.toInt = 4 → ¬ s.toInt = 5 → w.2.2.1 0 70 = v')) → QT (f_X4_takePlain_137 b t s y p2 p3 n v' q) (fun z => QT (f_X11_readsLeaf_108 v xB w.1 s w.2) (P z)) := fun q w n v' hq => by
    rcases hq with ⟨q1, q2⟩ | ⟨q1, q2, ⟨q3, q4⟩, q5, q6, q7, q8⟩
    · rw [q2]
      exact bad q w.2 n v' q1
    · rw [q1]
      exact one q w.2 n v' q2 q3 (PMB.rf.l.trans q4) q5 q6 q7 q8
  refine QT.sw ?_
  refine QT.grd (fun _ => ?_)
  refine QT.sw ?_
  refine QT.ieq (fun s1 => ?_) (fun s1 => ?_)
  · -- a flag
    refine QT.sw ?_
    refine QT.ieq (fun _ => ?_) (fun h => by omega)
    refine QT.sw ?_
    unfold f_X11_readsFlag f_X11_readsFlag_30
    rw [Option.bind_assoc]
    refine QT.bnd2 (rd_byte hb h0) (fun q w hqw => ?_)
    have z1 : (1 : Int64).toInt = 1 := by decide
    rcases hqw with ⟨f1, f2⟩ | ⟨⟨e1, e2, e3⟩, hR, hA, hB⟩
    · have hall : QT (if (lg_cmp (q.1.toInt64) 1) ≤ 0 then (f_X4_takePlain_137 b t s y p2 p3 0 (q.1.toInt64) q.2) else ((f_X4_fail b t 12 (σ.1 b 5) q.2).bind fun q8 => f_X4_takePlain_137 b t s y p2 p3 0 (q.1.toInt64) q8)) (fun z => ¬ z.1 b 7 = 0) := QT.ite (fun _ => ad_plain137 hb f1 _ _ _ _ _ _) (fun _ => QT.bnd (a_failed hb 12 _ _ (by decide)) (fun s' hs' => ad_plain137 hb hs' _ _ _ _ _ _))
      refine hall.mono (fun z hz => ?_)
      refine QT.bnd (Q := fun k : Int32 × ST => k.1 = 0) (QT.ilt (fun _ => QT.ret rfl) (fun h => by omega)) (fun k hk => ?_)
      unfold f_X11_readsLeaf_108
      exact QT.ite (fun _ => QT.grd (fun _ => QT.ret (hF _ _ hz hk))) (fun h => absurd hk h)
    · refine QT.ile (fun hle => ?_) (fun hgt => ?_)
      · have g := lgc_le hle
        rw [i64, z1] at g
        have hB' : (if w.1 < 0 then (some ((0 : Int32), (stL w.2 0 70 (w.1.toInt64)))) else (if w.1 < 2 then (some ((1 : Int32), (stL w.2 0 70 (w.1.toInt64)))) else ((f_X11_fails 12 (τ.1 0 64) (stL w.2 0 70 (w.1.toInt64))).bind fun q3 => if q3.1 = 0 then (some (0, q3.2)) else (some (1, q3.2))))) = some ((1 : Int32), stL w.2 0 70 (w.1.toInt64)) := by
          rw [if_neg (fun h => by have := il_lt h; rw [e1] at this; omega), if_pos (Int32.lt_iff_toInt_lt.mpr (by rw [e1]; omega))]
        refine QT.mono (P := fun z => QT (f_X11_readsLeaf_108 v xB 1 s (stL w.2 0 70 (w.1.toInt64))) (P z)) ?_ (fun z hz => ?_)
        · refine cont q.2 (1, stL w.2 0 70 (w.1.toInt64)) 0 _ (.inr ⟨rfl, hR.l, ⟨hA, hB.wk.l⟩, n0 _ (by omega), fun h => by omega, fun h => by omega, fun _ _ => ?_⟩)
          show (stL w.2 0 70 (w.1.toInt64)).2.1 0 70 = _
          rw [stL_at, e1]
        · refine QT.bnd (Q := fun k : Int32 × ST => k = (1, stL w.2 0 70 (w.1.toInt64))) (fun k hk => ?_) (fun k hk => by rw [hk]; exact hz)
          have hk := hB'.symm.trans hk
          exact (Option.some.inj hk).symm
      · have g : 2 ≤ q.1.toInt := by
          by_cases h9 : 2 ≤ q.1.toInt
          · exact h9
          · exfalso
            have c1 : q.1.toInt64 = 1 ∨ q.1.toInt64 = 0 := by
              have ei := i64 q.1
              by_cases h8 : q.1.toInt = 1
              · exact .inl (Int64.toInt_inj.mp (by rw [ei, h8]; rfl))
              · exact .inr (Int64.toInt_inj.mp (by rw [ei]; show q.1.toInt = 0; omega))
            rcases c1 with c1 | c1
            · rw [c1] at hgt
              revert hgt
              decide
            · rw [c1] at hgt
              revert hgt
              decide
        refine QT.mono (P := fun z => ¬ z.1 b 7 = 0) (QT.bnd (a_failed hb 12 _ _ (by decide)) (fun s' hs' => ad_plain137 hb hs' _ _ _ _ _ _)) (fun z hz => ?_)
        refine QT.bnd (Q := fun k : Int32 × ST => k.1 = 0) (QT.ilt (fun _ => QT.ret rfl) (fun _ => QT.ilt (fun h => by rw [e1] at h; omega) (fun _ => QT.bnd (q_fails _ _ _) (fun k hk => QT.ite (fun _ => QT.ret rfl) (fun h => absurd hk h))))) (fun k hk => ?_)
        unfold f_X11_readsLeaf_108
        exact QT.ite (fun _ => QT.grd (fun _ => QT.ret (hF _ _ hz hk))) (fun h => absurd hk h)
  refine QT.sw ?_
  refine QT.ieq (fun h => absurd h s1) (fun _ => ?_)
  refine QT.sw ?_
  refine QT.ieq (fun s2 => ?_) (fun s2 => ?_)
  · -- a whole number, small
    refine QT.sw ?_
    refine QT.ieq (fun _ => ?_) (fun h => by omega)
    refine QT.sw ?_
    unfold f_X11_readsInt f_X11_readsInt_31
    rw [e64, Option.bind_assoc]
    refine QT.bnd2 (rd_number hb (σ.1 b 5) σ _ h0) (fun q w hqw => ?_)
    refine QT.ieq (fun _ => ?_) (fun h => absurd s2 h)
    have zlo : (-2147483648 : Int64).toInt = -2147483648 := by decide
    have zhi : (2147483647 : Int64).toInt = 2147483647 := by decide
    have his : ∀ z : ST, OK (f_X10_isInt q.1 z) (RO z fun k => k.toInt = 0 ∧ ¬ (-2147483648 ≤ q.1.toInt ∧ q.1.toInt ≤ 2147483647) ∨ k.toInt = 1 ∧ -2147483648 ≤ q.1.toInt ∧ q.1.toInt ≤ 2147483647) := fun z => by
      have k := b_within q.1 (-2147483648) 2147483647 z
      rw [zlo, zhi] at k
      exact k
    rcases hqw with ⟨f1, f2⟩ | ⟨q1, q2, ⟨q3, q4⟩, q5⟩
    · have hall : QT ((f_X10_isInt q.1 q.2).bind fun q12 => if q12.1 = 0 then ((f_X4_fail b t 12 (σ.1 b 5) q12.2).bind fun q14 => f_X4_takePlain_137 b t s y p2 p3 0 q.1 q14) else (f_X4_takePlain_137 b t s y p2 p3 0 q.1 q12.2)) (fun z => ¬ z.1 b 7 = 0) := by
        refine QT.bndR (his q.2) (fun k _ => ?_)
        dsimp only
        exact QT.ite (fun _ => QT.bnd (a_failed hb 12 _ _ (by decide)) (fun s' hs' => ad_plain137 hb hs' _ _ _ _ _ _)) (fun _ => ad_plain137 hb f1 _ _ _ _ _ _)
      refine hall.mono (fun z hz => ?_)
      refine QT.bnd (Q := fun k : Int32 × ST => k.1 = 0) (QT.ite (fun _ => QT.ret rfl) (fun h => absurd f2 h)) (fun k hk => ?_)
      unfold f_X11_readsLeaf_108
      exact QT.ite (fun _ => QT.grd (fun _ => QT.ret (hF _ _ hz hk))) (fun h => absurd hk h)
    · have hw1 : ¬ w.1 = 0 := by rw [q1]; exact one_ne
      have hb0 := b_within (w.2.2.1 0 70) (-2147483648) 2147483647 w.2
      rw [q5, zlo, zhi] at hb0
      rw [q5]
      refine QT.bndR (his q.2) (fun k hk => ?_)
      dsimp only
      refine QT.ieq (fun k0 => ?_) (fun k0 => ?_)
      · refine QT.mono (P := fun z => ¬ z.1 b 7 = 0) (QT.bnd (a_failed hb 12 _ _ (by decide)) (fun s' hs' => ad_plain137 hb hs' _ _ _ _ _ _)) (fun z hz => ?_)
        refine QT.bnd (Q := fun k : Int32 × ST => k.1 = 0) (QT.ite (fun h => absurd h hw1) (fun _ => QT.bndR hb0 (fun k' hk' => ?_))) (fun k hk => ?_)
        · dsimp only
          refine QT.ieq (fun _ => QT.bnd (q_fails _ _ _) (fun k hk => QT.ite (fun _ => QT.ret rfl) (fun h => absurd hk h))) (fun h => ?_)
          exfalso
          rcases hk with hk | hk
          · rcases hk' with hk' | hk'
            · omega
            · exact hk.2 hk'.2
          · omega
        · unfold f_X11_readsLeaf_108
          exact QT.ite (fun _ => QT.grd (fun _ => QT.ret (hF _ _ hz hk))) (fun h => absurd hk h)
      · refine QT.mono (P := fun z => QT (f_X11_readsLeaf_108 v xB 1 s w.2) (P z)) ?_ (fun z hz => ?_)
        · refine cont q.2 (1, w.2) 0 q.1 (.inr ⟨rfl, q2, ⟨q3, q4⟩, n0 _ (by omega), fun h => by omega, fun h => by omega, fun _ _ => q5⟩)
        · refine QT.bnd (Q := fun k : Int32 × ST => k = (1, w.2)) (QT.ite (fun h => absurd h hw1) (fun _ => QT.bndR hb0 (fun k' hk' => ?_))) (fun k hk => by rw [hk]; exact hz)
          dsimp only
          refine QT.ieq (fun h => ?_) (fun _ => QT.ret rfl)
          exfalso
          rcases hk with hk | hk
          · omega
          · rcases hk' with hk' | hk'
            · exact hk'.2 hk.2
            · omega
  refine QT.sw ?_
  refine QT.ieq (fun h => absurd h s2) (fun _ => ?_)
  refine QT.sw ?_
  refine QT.ieq (fun s3 => ?_) (fun s3 => ?_)
  · -- a whole number
    refine QT.sw ?_
    refine QT.ieq (fun _ => ?_) (fun h => by omega)
    refine QT.sw ?_
    rw [e64]
    refine QT.bnd2 (rd_number hb (σ.1 b 5) σ _ h0) (fun q w hqw => ?_)
    refine QT.ieq (fun h => by omega) (fun _ => ?_)
    refine cont q.2 w 0 q.1 ?_
    rcases hqw with hq | ⟨q1, q2, q3, q5⟩
    · exact .inl hq
    · exact .inr ⟨q1, q2, q3, n0 _ (by omega), fun h => by omega, fun h => by omega, fun _ _ => q5⟩
  refine QT.sw ?_
  refine QT.ieq (fun h => absurd h s3) (fun _ => ?_)
  refine QT.sw ?_
  refine QT.ieq (fun s4 => ?_) (fun s4 => ?_)
  · -- a real
    refine QT.sw ?_
    refine QT.ieq (fun _ => ?_) (fun h => by omega)
    refine QT.sw ?_
    refine QT.bnd2 (rd_real hb σ _ h0) (fun q w hqw => ?_)
    refine cont q.2 w 0 q.1 ?_
    rcases hqw with hq | ⟨q1, q2, q3, q5⟩
    · exact .inl hq
    · exact .inr ⟨q1, q2, q3, n0 _ (by omega), fun h => by omega, fun _ => q5, fun h => absurd (by omega) h⟩
  refine QT.sw ?_
  refine QT.ieq (fun h => absurd h s4) (fun _ => ?_)
  refine QT.sw ?_
  refine QT.ieq (fun s5 => ?_) (fun s5 => ?_)
  · -- a text
    refine QT.sw ?_
    refine QT.ieq (fun _ => ?_) (fun h => by omega)
    refine QT.sw ?_
    rw [e64]
    have e : ((f_X4_takeCount b t (σ.1 b 5) 12 σ).bind fun q24 => (f_X4_takeLetters b t (σ.1 b 5) q24.1 q24.2).bind fun q26 => f_X4_takePlain_137 b t s y p2 p3 q24.1 q26.1 q26.2) = (((f_X4_takeCount b t (σ.1 b 5) 12 σ).bind fun q24 => (f_X4_takeLetters b t (σ.1 b 5) q24.1 q24.2).bind fun q26 => some ((q24.1, q26.1), q26.2)).bind fun z => f_X4_takePlain_137 b t s y p2 p3 z.1.1 z.1.2 z.2) := by
      rw [Option.bind_assoc]
      congr 1
      funext q24
      rw [Option.bind_assoc]
      rfl
    rw [e]
    refine QT.bnd2 (rd_text hb (σ.1 b 5) σ _ h0) (fun q w hqw => ?_)
    refine cont q.2 w q.1.1 q.1.2 ?_
    rcases hqw with hq | ⟨q1, q2, q3, q5, q6⟩
    · exact .inl hq
    · refine .inr ⟨q1, q2, q3, ?_, fun _ => ?_, fun h => absurd h (by omega), fun _ h => absurd (by omega) h⟩
      · rw [if_pos (by omega), q6]
      · rw [q6]
        exact q5
  · -- nothing
    refine QT.sw ?_
    refine QT.ieq (fun h => absurd h s5) (fun _ => ?_)
    refine QT.sw ?_
    refine cont σ (1, stL τ 0 70 0) 0 0 (.inr ⟨rfl, h0, ⟨PMA.rf, PMB.rf⟩, n0 _ (by omega), fun h => by omega, fun h => by omega, fun _ _ => ?_⟩)
    exact stL_at
/-! a row put into a tree that is read, both sides -/
/-- below which row a new one comes, of any tree -/
def PARG (b : Nat) (σ τ : ST) (x v : Nat) (pa pb pl : Int32) (l m : List EN) : Prop := ((pa.toInt = -1 ∧ pb.toInt = -1) ∧ l = [] ∧ m = [] ∧ pl.toInt = 0) ∨ ∃ (x0 v0 : Nat) (Q : EN → Prop), ((pa.toInt = x0 ∧ x0 < x) ∧ pb.toInt = v0 ∧ v0 < v) ∧ KDS b σ τ (x0, x) (v0, v) (l ++ m) Q ∧ (∀ y, y ∈ l ++ m → (inA y = true → (σ.1 (b + 3) y.2.1.1).toInt = y.1) ∧ (τ.1 25 y.2.2.1).toInt = y.1) ∧ (∀ y, y ∈ l → (y.1 : Int) < pl.toInt) ∧ (∀ y, y ∈ m → pl.toInt < y.1) ∧ (0 ≤ pl.toInt ∧ pl.toInt ≤ 200) ∧ (pl.toInt < 200 ∨ (τ.1 20 v0).toInt = 6)
theorem PARG.lt {b : Nat} {σ τ : ST} {x v : Nat} {pa pb pl : Int32} {l m : List EN} (h : PARG b σ τ x v pa pb pl l m) : pa.toInt < x ∧ pb.toInt < v ∧ (∀ r, r ∈ rA l ++ rA m → r < x) ∧ (∀ r, r ∈ rB l ++ rB m → r < v) ∧ 0 ≤ pl.toInt ∧ pl.toInt ≤ 200 := by
  rcases h with ⟨⟨h1, h2⟩, h3, h4, h5⟩ | ⟨x0, v0, Q, ⟨⟨h1, h2⟩, h3, h4⟩, h5, _, _, _, h9, _⟩
  · refine ⟨by omega, by omega, fun r hr => ?_, fun r hr => ?_, by omega, by omega⟩
    · rw [h3, h4] at hr
      exact absurd hr (by simp [rA])
    · rw [h3, h4] at hr
      exact absurd hr (by simp [rB])
  · refine ⟨by omega, by omega, fun r hr => ?_, fun r hr => ?_, h9.1, h9.2⟩
    · rw [← rA_app] at hr
      obtain ⟨y, y1, y2, y3⟩ := mem_rA hr
      have k := (h5.2.2.2 y y1).2.1
      have k1 := k.1 y2
      have k2 := inA_lt y2
      have k1 : x0 < y.2.1.1 ∧ y.2.1.2 ≤ x := k1
      omega
    · rw [← rB_app] at hr
      obtain ⟨y, y1, y3⟩ := mem_rB hr
      have k : v0 < y.2.2.1 ∧ y.2.2.1 < y.2.2.2 ∧ y.2.2.2 ≤ v := (h5.2.2.2 y y1).1
      omega
theorem PARG.gA {b : Nat} {σ τ : ST} {x v : Nat} {pa pb pl : Int32} {l m : List EN} (h : PARG b σ τ x v pa pb pl l m) : pa.toInt = -1 ∨ 0 ≤ pa.toInt ∧ pa.toInt < x ∧ ((rA l ++ rA m).Nodup ∧ CN (σ.1 (b + 9)) (σ.1 (b + 7) pa.toNatClampNeg) (rA l ++ rA m) ∧ (σ.1 (b + 8) pa.toNatClampNeg).toInt = lz (-1) (rA l ++ rA m)) ∧ (∀ r, r ∈ rA l ++ rA m → r < x) ∧ (rA l).length ≤ x ∧ (∀ r, r ∈ rA l → (σ.1 (b + 3) r).toInt < pl.toInt) ∧ (∀ r, r ∈ rA m → pl.toInt ≤ (σ.1 (b + 3) r).toInt) := by
  have hlt := h.lt
  rcases h with ⟨⟨h1, h2⟩, h3, h4, h5⟩ | ⟨x0, v0, Q, ⟨⟨h1, h2⟩, h3, h4⟩, h5, h6, h7, h8, _⟩
  · exact .inl h1
  · obtain ⟨⟨⟨k1, k2⟩, _⟩, ⟨k3, _⟩, ⟨_, k4⟩, _⟩ := h5
    have n0 : pa.toNatClampNeg = x0 := nC h1
    rw [n0]
    rw [← rA_app]
    have k4 : (rA (l ++ m)).length + x0 < x := k4.1
    have e4 : (rA (l ++ m)).length = (rA l).length + (rA m).length := by rw [rA_app, List.length_append]
    refine .inr ⟨by omega, by omega, ⟨rA_nd k3, k1, k2⟩, by rw [rA_app]; exact hlt.2.2.1, by omega, fun r hr => ?_, fun r hr => ?_⟩
    · obtain ⟨y, y1, y2, y3⟩ := mem_rA hr
      have := (h6 y (List.mem_append_left _ y1)).1 y2
      have := h7 y y1
      rw [y3]
      omega
    · obtain ⟨y, y1, y2, y3⟩ := mem_rA hr
      have := (h6 y (List.mem_append_right _ y1)).1 y2
      have := h8 y y1
      rw [y3]
      omega
theorem PARG.gB {b : Nat} {σ τ : ST} {x v : Nat} {pa pb pl : Int32} {l m : List EN} (h : PARG b σ τ x v pa pb pl l m) : pb.toInt = -1 ∨ 0 ≤ pb.toInt ∧ pb.toInt < v ∧ ((rB l ++ rB m).Nodup ∧ CN (τ.1 30) (τ.1 28 pb.toNatClampNeg) (rB l ++ rB m) ∧ (τ.1 29 pb.toNatClampNeg).toInt = lz (-1) (rB l ++ rB m)) ∧ (∀ r, r ∈ rB l ++ rB m → r < v) ∧ (∀ r, r ∈ rB l → (τ.1 25 r).toInt < pl.toInt) ∧ (∀ r, r ∈ rB m → pl.toInt ≤ (τ.1 25 r).toInt) := by
  have hlt := h.lt
  rcases h with ⟨⟨h1, h2⟩, h3, h4, h5⟩ | ⟨x0, v0, Q, ⟨⟨h1, h2⟩, h3, h4⟩, h5, h6, h7, h8, _⟩
  · exact .inl h2
  · obtain ⟨⟨_, k1, k2⟩, ⟨k3, _⟩, _, k5⟩ := h5
    have n0 : pb.toNatClampNeg = v0 := nC h3
    rw [n0]
    rw [← rB_app]
    refine .inr ⟨by omega, by omega, ⟨rB_nd k3 (fun y hy => (k5 y hy).1.2.1), k1, k2⟩, by rw [rB_app]; exact hlt.2.2.2.1, fun r hr => ?_, fun r hr => ?_⟩
    · obtain ⟨y, y1, y3⟩ := mem_rB hr
      have := (h6 y (List.mem_append_left _ y1)).2
      have := h7 y y1
      rw [y3]
      omega
    · obtain ⟨y, y1, y3⟩ := mem_rB hr
      have := (h6 y (List.mem_append_right _ y1)).2
      have := h8 y y1
      rw [y3]
      omega
theorem q_sbnd {α β : Type} {o : Option α} {f : α → Option β} {e : α} {P : β → Prop} (h : o = some e) (k : QT (f e) P) : QT (o.bind f) P := by
  rw [h]
  exact k
/-- the class's row, with what it is worth -/
theorem a_addNode {b t : Nat} (hb : BT b t) (y pa pl n : Int32) (w : Int64) (so : Int32) (σ : ST) {x : Nat} {l m : List Nat} (hy : ¬ y = -1) (h7 : σ.1 b 7 = 0) (hr : σ.2.2.2 b = t) (hx : (σ.1 t 1).toInt = x) (hc : 400 ≤ (σ.1 t 0).toInt) (hso : f_X5_sortOf 4 y σ = some (so, σ)) (hpa : pa.toInt = -1 ∨ 0 ≤ pa.toInt ∧ pa.toInt < x ∧ ((l ++ m).Nodup ∧ CN (σ.1 (t + 9)) (σ.1 (t + 7) pa.toNatClampNeg) (l ++ m) ∧ (σ.1 (t + 8) pa.toNatClampNeg).toInt = lz (-1) (l ++ m)) ∧ (∀ r, r ∈ l ++ m → r < x) ∧ l.length ≤ x ∧ (∀ r, r ∈ l → (σ.1 (t + 3) r).toInt < pl.toInt) ∧ (∀ r, r ∈ m → pl.toInt ≤ (σ.1 (t + 3) r).toInt)) : QT (f_X4_addNode b t y pa pl n w σ) (fun q => (¬ q.2.1 b 7 = 0 ∧ 400 ≤ x) ∨ (x < 400 ∧ q.1.toInt = x ∧ ∃ s, GRW t x so pa pl l m σ s ∧ q.2 = stL (stI s (t + 4) x n) (t + 6) x w)) := by
  have hb' := hb
  unfold BT at hb'
  have l400 := li_400
  have lm := li_m1
  have k63 : ∀ s : ST, ¬ s.1 b 7 = 0 → QT (f_X4_addNode_63 b t n w (-1) s) (fun q => ¬ q.2.1 b 7 = 0) := fun s hs => by
    unfold f_X4_addNode_63
    refine QT.grd (fun _ => QT.bnd (Q := fun z => z = s) ?_ (fun z hz => QT.ret (by rw [hz]; exact hs)))
    unfold f_X7_setWorth
    refine QT.bnd (pt_isRow t (-1) s) (fun q hq => ?_)
    obtain ⟨v, s'⟩ := q
    obtain ⟨e, hv⟩ := hq
    have e : s' = s := e
    subst e
    dsimp only
    refine QT.ieq (fun _ => QT.ret rfl) (fun h => ?_)
    exfalso
    have l0 := li_0
    have hv : v.toInt = 0 ∧ ¬ (0 ≤ (-1 : Int32).toInt ∧ (-1 : Int32).toInt < (s'.1 t 1).toInt ∧ (-1 : Int32).toInt < (s'.1 t 0).toInt) ∨ v.toInt = 1 ∧ 0 ≤ (-1 : Int32).toInt ∧ (-1 : Int32).toInt < (s'.1 t 1).toInt ∧ (-1 : Int32).toInt < (s'.1 t 0).toInt := hv
    omega
  unfold f_X4_addNode
  refine QT.ite (fun h => absurd h hy) (fun _ => ?_)
  refine QT.ite (fun _ => ?_) (fun h => absurd h7 h)
  refine QT.grd (fun _ => ?_)
  refine QT.ile (fun hle => ?_) (fun hlt => ?_)
  · unfold f_X4_addNode_48
    refine QT.ite (fun _ => ?_) (fun h => absurd rfl h)
    exact QT.bnd (a_failed hb 15 (-1) σ (by decide)) (fun s hs => (k63 s hs).mono (fun q hq => .inl ⟨hq, by omega⟩))
  · rw [hso, sbnd]
    dsimp only
    refine QT.bnd (a_grow t so pa pl σ hx hpa) (fun q hq => ?_)
    rcases hq with ⟨_, h2, _⟩ | ⟨⟨h1, h2⟩, g⟩
    · omega
    · unfold f_X4_addNode_48
      refine QT.ieq (fun h => by omega) (fun _ => ?_)
      unfold f_X4_addNode_63
      have g1 : (q.2.1 t 1).toInt = (x : Int) + 1 := g.2.1
      have g0 : q.2.1 t 0 = σ.1 t 0 := g.1.2.2.2 0 (by omega)
      refine QT.grd (fun _ => ?_)
      refine QT.bnd (a_setW t q.1 n w q.2 h1 (by omega) (by rw [g0]; omega)) (fun z hz => QT.ret (.inr ⟨by omega, h1, q.2, g, hz⟩))
/-! reading: what stays all the while -/
theorem KRA.kta {b t : Nat} {S σ : ST} (h : KRA b t S σ) : KTA S σ := fun d h1 h2 => by
  have hb := h.1
  unfold BT at hb
  exact ⟨h.2.1 d (by omega) (by omega), h.2.2.2.1 d (by omega)⟩
theorem KRB.ch {T τ : ST} (h : KRB T τ) : CH [20, 23, 24, 25, 26, 27, 28, 29, 30, 36, 41] [46, 57, 64, 66, 67, 68, 72] T τ := by
  refine ⟨fun c h0 hc => ?_, fun i hi => ?_, h.2.2 9 (by omega) (by omega) (by omega), h.2.2 12 (by omega) (by omega) (by omega), h.2.2 14 (by omega) (by omega) (by omega), h.2.2 17 (by omega) (by omega) (by omega), h.2.2 18 (by omega) (by omega) (by omega)⟩
  · simp only [List.mem_cons, List.not_mem_nil, or_false, not_or] at hc
    exact h.1 c h0 (by omega) (by omega) (by omega) (by omega)
  · simp only [List.mem_cons, List.not_mem_nil, or_false, not_or] at hi
    exact h.2.1 i (by omega) (by omega) (by omega) (by omega) (by omega) (by omega) (by omega)
theorem KRB.kr {T τ : ST} (h : KRB T τ) : KR T τ := h.ch.kr (by decide)
/-- two plans of which the pairs of records that match are laid, both sides -/
def RST (p q : Nat) (S T : ST) : Prop := PQ p q S T ∧ (∀ k, k < 36 → (T.1 35 k = 0 ↔ lbt (S.2.1 41 4) k = false)) ∧ PPX T
theorem RST.at {p q b t : Nat} {S T σ τ : ST} (h : RST p q S T) (kA : KRA b t S σ) (kB : KRB T τ) : PQ p q σ τ ∧ ∀ k, k < 36 → (τ.1 35 k = 0 ↔ lbt (σ.2.1 41 4) k = false) := by
  obtain ⟨⟨a1, ⟨a2, a3⟩, ⟨a4, a5⟩, a6⟩, h2, _⟩ := h
  have hb := kA.1
  unfold BT at hb
  refine ⟨⟨a1, ⟨?_, ?_⟩, ⟨a4.keep a1.1 kA.kta kB.kr, a5.keep a1.2 kA.kta kB.kr⟩, a6.ch kB.ch (by decide) (by decide)⟩, fun k hk => ?_⟩
  · rw [kB.2.1 53 (by omega) (by omega) (by omega) (by omega) (by omega) (by omega) (by omega)]
    exact a2
  · rw [kB.2.1 54 (by omega) (by omega) (by omega) (by omega) (by omega) (by omega) (by omega)]
    exact a3
  · rw [kB.1 35 (by omega) (by omega) (by omega) (by omega) (by omega), kA.2.2.2.1 41 (by omega)]
    exact h2 k hk
theorem KRB.ty {T τ : ST} (h : KRB T τ) : τ.1 2 = T.1 2 ∧ τ.1 3 = T.1 3 ∧ τ.1 4 = T.1 4 ∧ τ.1 5 = T.1 5 ∧ τ.1 35 = T.1 35 := ⟨h.1 2 (by omega) (by omega) (by omega) (by omega) (by omega), h.1 3 (by omega) (by omega) (by omega) (by omega) (by omega), h.1 4 (by omega) (by omega) (by omega) (by omega) (by omega), h.1 5 (by omega) (by omega) (by omega) (by omega) (by omega), h.1 35 (by omega) (by omega) (by omega) (by omega) (by omega)⟩
theorem KRB.fl {T τ : ST} (h : KRB T τ) : τ.1 8 = T.1 8 ∧ τ.1 11 = T.1 11 ∧ τ.1 15 = T.1 15 ∧ τ.1 16 = T.1 16 ∧ τ.1 19 = T.1 19 := ⟨h.1 8 (by omega) (by omega) (by omega) (by omega) (by omega), h.1 11 (by omega) (by omega) (by omega) (by omega) (by omega), h.1 15 (by omega) (by omega) (by omega) (by omega) (by omega), h.1 16 (by omega) (by omega) (by omega) (by omega) (by omega), h.1 19 (by omega) (by omega) (by omega) (by omega) (by omega)⟩
theorem TY.at {p d : Nat} {rm : Int} {S T σ τ : ST} {x u : Int32} (h : TY p rm S T d x u) (k : KTA S σ) (kB : KRB T τ) : TY p rm σ τ d x u := by
  obtain ⟨e2, e3, e4, e5, _⟩ := kB.ty
  unfold TY
  rw [(k 4 (by omega) (by omega)).1, (k 15 (by omega) (by omega)).1, (k 16 (by omega) (by omega)).1, (k 17 (by omega) (by omega)).1, e2, e3, e4, e5]
  exact h
theorem TG.rA {p : Nat} {rm : Int} {S T σ : ST} {d : Nat} {x y : Int32} (h : TG p rm S T d x y) (hn : (S.1 4 1).toInt ≤ 262) (k : KTA S σ) : f_X5_sortOf 4 x σ = some (T.1 2 y.toNatClampNeg, σ) ∧ f_X5_innerOf 4 x σ = some (S.1 16 x.toNatClampNeg, σ) := by
  have k4 := (k 4 (by omega) (by omega)).1
  have k15 := (k 15 (by omega) (by omega)).1
  have k16 := (k 16 (by omega) (by omega)).1
  have hb : 0 ≤ x.toInt ∧ x.toInt < (σ.1 4 1).toInt := by rw [k4]; exact h.1.1
  have hn' : (σ.1 4 1).toInt ≤ 262 := by rw [k4]; exact hn
  refine ⟨?_, ?_⟩
  · rw [a4_sortOf x σ hb hn', k15, h.2.1]
  · rw [a4_innerOf x σ hb hn', k16]
/-- a branch by its number -/
theorem a4_branchOf_23 {σ : ST} (hn : (σ.1 4 1).toInt ≤ 262) (x0 kk : Int32) {k : Nat} (hk : kk.toInt = k) (hk4 : k < 4) (hv : ∀ j : Nat, j < k → 0 ≤ (chn (σ.1 17) x0 j).toInt ∧ (chn (σ.1 17) x0 j).toInt < (σ.1 4 1).toInt) : ∀ (f j : Nat) (x4 : Int32), x4.toInt = j → j ≤ k → k < f + j → f_X5_branchOf_23 4 f kk (chn (σ.1 17) x0 j) x4 σ = some (chn (σ.1 17) x0 k, σ) := by
  intro f
  have l1 := li_1
  have l4 := li_4
  induction f with
  | zero => intro j x4 h1 h2 h3; omega
  | succ f ih =>
    intro j x4 h1 h2 h3
    rw [f_X5_branchOf_23]
    by_cases e : j = k
    · subst e
      rw [if_pos (by rw [Int32.le_iff_toInt_le]; omega)]
    · have r := hv j (by omega)
      have ex := il_addE (x := x4) (y := 1) (by omega) (by omega)
      rw [if_neg (by rw [Int32.le_iff_toInt_le]; omega), if_neg (by rw [Int32.le_iff_toInt_le]; omega), a4_branchAfter _ σ r hn, sbnd]
      exact ih (j + 1) (x4 + 1) (by omega) (by omega) (by omega)
theorem a4_branchOf {p d : Nat} {rm : Int} {σ τ : ST} {x y : Int32} (hn : (σ.1 4 1).toInt ≤ 262) (h : TY p rm σ τ (d + 1) x y) (h8 : (τ.1 2 y.toNatClampNeg).toInt = 8) (kk : Int32) {k : Nat} (hk : kk.toInt = k) (hkm : (k : Int) < (τ.1 4 y.toNatClampNeg).toInt) : f_X5_branchOf 4 x kk σ = some (chn (σ.1 17) (σ.1 16 x.toNatClampNeg) k, σ) := by
  obtain ⟨⟨h1, h2⟩, h3, h4, h5, h6, h7, h8'⟩ := h
  obtain ⟨u1, u2, u3, _⟩ := h8' h8
  have l8 := li_8
  have lu := FUi
  unfold f_X5_branchOf f_X5_branchOf_19
  rw [a4_sortOf x σ h1 hn, sbnd]
  dsimp only
  rw [h3, if_pos (Int32.toInt_inj.mp (h8.trans l8.symm)), a4_innerOf x σ h1 hn, sbnd]
  exact a4_branchOf_23 hn (σ.1 16 x.toNatClampNeg) kk hk (by omega) (fun j hj => (u2 j (by omega)).1.rng.1) FU 0 0 li_0 (by omega) (by omega)
/-- do two types match, both sides -/
theorem rx_fits {p q b t : Nat} {S T σ τ : ST} (hS : RST p q S T) (kA : KRA b t S σ) (kB : KRB T τ) (x y u v : Int32) (d e : Nat) (hx : TY p (T.1 8 p).toInt S T d x u) (hy : TY q (T.1 8 q).toInt S T e y v) (hd : d ≤ 4) (he : e ≤ 4) : OK (f_X0_fits x y σ) (RO σ fun z => OK (f_T_X11_match u v τ) (RO τ fun k => z.toInt = 0 ∧ k.toInt = 0 ∨ z.toInt = 1 ∧ k.toInt = 1 ∧ MS T u v)) := by
  obtain ⟨⟨⟨hp, hq⟩, ⟨a2, a3⟩, ⟨a4, a5⟩, a6⟩, h2⟩ := hS.at kA kB
  have cP := a4.cnt
  have cQ := a5.cnt
  obtain ⟨e2, e3, e4, e5, e35⟩ := kB.ty
  have e8 := kB.fl.1
  rw [← e8] at hx hy
  have hx' := hx.at kA.kta kB
  have hy' := hy.at kA.kta kB
  refine (ax_fits (PR := τ.1 35) cP.2.2 hp hq cP.2.1.2 cQ.2.1.2 h2 x y u v d e hx' hy' hd he).roq (fun z hz => ?_)
  refine (bT_match u v τ cP.2.1.2 cQ.2.1.2 a6.2.2 hx'.vs hy'.vs (by omega) (by omega)).roq (fun k hk => ?_)
  have hm : MS τ u v ↔ MS T u v := by
    unfold MS
    rw [e2, e3, e4, e5, e35]
  rcases hz with hz | hz <;> rcases hk with hk | hk
  · exact .inl ⟨hz.1, hk.1⟩
  · exact absurd hk.2 hz.2
  · exact absurd hz.2 hk.2
  · exact .inr ⟨hz.1, hk.1, hm.mp hk.2⟩
/-- the branch that is chosen, both sides -/
theorem rx_chosen {p q b t : Nat} {S T σ τ : ST} (hS : RST p q S T) (kA : KRA b t S σ) (kB : KRB T τ) (x y u v : Int32) (d e : Nat) (hx : TY p (T.1 8 p).toInt S T d x u) (hy : TY q (T.1 8 q).toInt S T e y v) (hu : ¬ (T.1 2 u.toNatClampNeg).toInt = 8) (h8 : (T.1 2 v.toNatClampNeg).toInt = 8) (hd : d ≤ 4) (he : e ≤ 4) (hM : MS T u v) : OK (f_X0_chosen x y σ) (RO σ fun z => OK (f_T_X11_chosen u v τ) (RO τ fun k => ∃ i : Nat, (i : Int) < (T.1 4 v.toNatClampNeg).toInt ∧ z = chn (S.1 17) (S.1 16 y.toNatClampNeg) i ∧ k.toInt = i ∧ MS T u (T.1 5 (4 * v.toNatClampNeg + i)))) := by
  obtain ⟨⟨⟨hp, hq⟩, ⟨a2, a3⟩, ⟨a4, a5⟩, a6⟩, h2⟩ := hS.at kA kB
  have cP := a4.cnt
  have cQ := a5.cnt
  obtain ⟨e2, e3, e4, e5, e35⟩ := kB.ty
  have e8 := kB.fl.1
  have k16 := (kA.kta 16 (by omega) (by omega)).1
  have k17 := (kA.kta 17 (by omega) (by omega)).1
  rw [← e8] at hx hy
  have hx' := hx.at kA.kta kB
  have hy' := hy.at kA.kta kB
  have h8' : (τ.1 2 v.toNatClampNeg).toInt = 8 := by rw [e2]; exact h8
  refine (ax_chosen (PR := τ.1 35) cP.2.2 hp hq cP.2.1.2 cQ.2.1.2 h2 x y u v d e hx' hy' h8' hd he).roq (fun z hz => ?_)
  refine (bz_chosen u v τ cP.2.1.2 cQ.2.1.2 a6.2.2 hx'.vs hy'.vs (by omega) (by omega) h8').roq (fun k hk => ?_)
  have hM' : MS τ u v := by
    unfold MS
    rw [e2, e3, e4, e5, e35]
    exact hM
  have hb := MT.iff.mp hM'
  unfold mB at hb
  obtain ⟨k0, g1, g2⟩ : ∃ k : Nat, (k : Int) < (τ.1 4 v.toNatClampNeg).toInt ∧ MS τ u (τ.1 5 (4 * v.toNatClampNeg + k)) := by
    rcases hb with ⟨h9, _⟩ | ⟨_, _, k, g1, g2⟩ | ⟨_, h9, _⟩
    · rw [e2] at h9
      exact absurd h9 hu
    · exact ⟨k, g1, g2⟩
    · exact absurd h8' h9
  rcases hz.uniq hk with h | ⟨i, i1, i2, i3, _⟩
  · exfalso
    rcases hk with ⟨_, hk⟩ | ⟨j, _, hk, _⟩
    · exact hk k0 (by omega) g2
    · have hk : k.toInt = (j : Int) := hk
      omega
  · rcases hk with ⟨hk, _⟩ | ⟨j, j1, hk, j2, _⟩
    · omega
    · have hk : k.toInt = (j : Int) := hk
      have ej : j = i := by omega
      subst ej
      refine ⟨j, by rw [← e4]; omega, ?_, i3, ?_⟩
      · rw [← k16, ← k17]
        exact Int32.toInt_inj.mp i2
      · have j2 : MS τ u (τ.1 5 (4 * v.toNatClampNeg + j)) := j2
        unfold MS at j2
        rw [e2, e3, e4, e5, e35] at j2
        exact j2
/-! a value that is read: what is said of it -/
/-- both read, so many rows made; nothing has failed -/
def RCX (b t m : Nat) (S T σ τ : ST) (x : Nat) : Prop := (KRA b t S σ ∧ KRB T τ) ∧ RPS b m σ τ ∧ (σ.1 t 1).toInt = x ∧ (τ.1 0 46).toInt = x ∧ x ≤ 400
/-- the tree that is read into -/
def RSS (b t : Nat) (S : ST) : Prop := S.2.2.2 b = t ∧ 400 ≤ (S.1 t 0).toInt ∧ (S.1 4 1).toInt ≤ 262
/-- both trees stayed -/
def TRE (t : Nat) (σ s τ w : ST) : Prop := (∀ c, t + 1 ≤ c → c ≤ t + 9 → s.1 c = σ.1 c) ∧ s.2.1 (t + 6) = σ.2.1 (t + 6) ∧ (∀ c, 20 ≤ c → c ≤ 30 → w.1 c = τ.1 c) ∧ w.2.1 21 = τ.2.1 21 ∧ w.2.1 22 = τ.2.1 22
theorem TRE.rf {t : Nat} {σ τ : ST} : TRE t σ σ τ τ := ⟨fun _ _ _ => rfl, rfl, fun _ _ _ => rfl, rfl, rfl⟩
theorem TRE.trans {t : Nat} {σ s u τ w z : ST} (h : TRE t σ s τ w) (k : TRE t s u w z) : TRE t σ u τ z := ⟨fun c a d => (k.1 c a d).trans (h.1 c a d), k.2.1.trans h.2.1, fun c a d => (k.2.2.1 c a d).trans (h.2.2.1 c a d), k.2.2.2.1.trans h.2.2.2.1, k.2.2.2.2.trans h.2.2.2.2⟩
/-- the sources of the records around stayed -/
def SRK (b L : Nat) (σ s : ST) : Prop := ∀ i, i < 8 * L → s.1 (b + 2) i = σ.1 (b + 2) i
theorem SRK.rf {b L : Nat} {σ : ST} : SRK b L σ σ := fun _ _ => rfl
theorem SRK.trans {b L : Nat} {σ s u : ST} (h : SRK b L σ s) (k : SRK b L s u) : SRK b L σ u := fun i hi => (k i hi).trans (h i hi)
theorem SRK.wk {b L M : Nat} {σ s : ST} (h : SRK b M σ s) (hL : L ≤ M) : SRK b L σ s := fun i hi => h i (by omega)
/-- a value that the reader doesn't want -/
def RSK (b t m L : Nat) (S T : ST) (x : Nat) (σ τ s w : ST) : Prop := RCX b t m S T s w x ∧ TRE t σ s τ w ∧ SRK b L σ s
/-- a value that it wants, at row x -/
def RVP (b t m q L : Nat) (S T : ST) (tA tB : Int32) (x : Nat) (pa pl : Int32) (l k : List EN) (σ τ s w : ST) : Prop := ∃ e : Nat, RCX b t m S T s w e ∧ x < e ∧ VAL True t q S T s w (32 - L) tA tB (x, e) (x, e) ∧ ((s.1 (t + 2) x = pa ∧ s.1 (t + 3) x = pl) ∧ (w.1 24 x = pa ∧ w.1 25 x = pl) ∧ s.1 (t + 5) x = w.1 27 x) ∧ (XTA t x pa.toInt (rA l) (rA k) σ s ∧ XTB x pa.toInt (rB l) (rB k) τ w) ∧ SRK b L σ s
/-- what both answer: it failed, or it went well -/
def ROUT (b : Nat) (K : ST → ST → Prop) (s : ST) (w : Int32 × ST) : Prop := (¬ s.1 b 7 = 0 ∧ w.1 = 0) ∨ (w.1 = 1 ∧ K s w.2)
theorem ROUT.imp {b : Nat} {K J : ST → ST → Prop} {s : ST} {w : Int32 × ST} (h : ROUT b K s w) (k : K s w.2 → J s w.2) : ROUT b J s w := Or.imp id (fun h => ⟨h.1, k h.2⟩) h
theorem PMA.kra {b t : Nat} {σ s : ST} (hb : BT b t) (h : PMA b σ s) : KRA b t σ s := by
  have hb' := hb
  unfold BT at hb'
  exact ⟨hb, fun c a _ => h.1 c (by omega), ⟨fun i i5 _ _ _ => h.2.1 i i5, fun i _ => by rw [h.1 t (by omega)]⟩, fun c _ => by rw [h.2.2], by rw [h.2.2], fun hn => by rw [h.2.1 7 (by omega)]; exact hn⟩
theorem PMB.krb {τ w : ST} (h : PMB τ w) : KRB τ w := ⟨fun c h0 _ _ _ _ => h.1 c h0, fun i _ _ h64 _ _ _ h72 => h.2.1 i h64 h72, fun c h0 _ _ => h.2.2 c h0⟩
theorem PM.tre {b t : Nat} {σ s τ w : ST} (hb : BT b t) (h : PMA b σ s) (k : PMB τ w) : TRE t σ s τ w := by
  have hb' := hb
  unfold BT at hb'
  exact ⟨fun c _ _ => h.1 c (by omega), by rw [h.2.2], fun c _ _ => k.1 c (by omega), k.2.2 21 (by omega), k.2.2 22 (by omega)⟩
theorem PMA.srk {b L : Nat} {σ s : ST} (h : PMA b σ s) : SRK b L σ s := fun i _ => by rw [h.1 (b + 2) (by omega)]
/-- where both stand when only the place has moved -/
theorem RCX.mv {b t m : Nat} {S T σ τ s w : ST} {x : Nat} (h : RCX b t m S T σ τ x) (hR : RPS b m s w) (hA : PMA b σ s) (hB : PMB τ w) : RCX b t m S T s w x := by
  obtain ⟨⟨h1, h2⟩, _, h3, h4, h5⟩ := h
  have hb := h1.1
  have hb' := hb
  unfold BT at hb'
  refine ⟨⟨h1.trans (hA.kra hb), h2.trans hB.krb⟩, hR, ?_, ?_, h5⟩
  · rw [hA.1 t (by omega)]
    exact h3
  · rw [hB.2.1 46 (by omega) (by omega)]
    exact h4
theorem RPS.lays {b m x : Nat} {so pa pl br : Int32} {l k : List Nat} {σ τ t : ST} (h : RPS b m σ τ) (g : GRB x so pa pl br l k τ t) : RPS b m σ t := by
  have e0 : ∀ j, j ≠ 46 → t.1 0 j = τ.1 0 j := g.1.2.2.2
  have e34 : t.1 34 = τ.1 34 := g.1.1 34 (by omega) (by omega) (by omega)
  unfold RPS at h ⊢
  rw [e0 64 (by omega), e0 65 (by omega), e0 63 (by omega), e34]
  exact h
theorem GRB.krb {x : Nat} {so pa pl br : Int32} {l k : List Nat} {τ t : ST} (g : GRB x so pa pl br l k τ t) : KRB τ t := ⟨fun c h0 h20 h23 _ _ => g.1.1 c h0 h20 h23, fun i h46 _ _ _ _ _ _ => g.1.2.2.2 i h46, fun c _ h21 h22 => g.1.2.1 c h21 h22⟩
theorem GRW.kra {b t x : Nat} {so pa pl : Int32} {l k : List Nat} {σ s : ST} (hb : BT b t) (g : GRW t x so pa pl l k σ s) : KRA b t σ s := by
  have hb' := hb
  unfold BT at hb'
  exact ⟨hb, fun c _ h => g.1.1 c (by omega), ⟨fun i _ _ _ _ => by rw [g.1.1 b (by omega)], fun i hi => g.1.2.2.2 i hi⟩, fun c hc => g.1.2.1 c hc, g.1.2.2.1, fun hn => by rw [g.1.1 b (by omega)]; exact hn⟩
/-- a row's size and worth -/
theorem set_kra {b t x : Nat} {n : Int32} {w : Int64} {s : ST} (hb : BT b t) : KRA b t s (stL (stI s (t + 4) x n) (t + 6) x w) := ((KRA.rf hb).i (.inr (.inr (.inr ⟨by omega, by omega⟩)))).l rfl
theorem XTA.src {b e : Nat} {p : Int} {l m : List Nat} {σ σ' s : ST} (h : XTA b e p l m σ' s) (hc : ∀ c, b + 1 ≤ c → c ≤ b + 9 → σ'.1 c = σ.1 c) (h6 : σ'.2.1 (b + 6) = σ.2.1 (b + 6)) : XTA b e p l m σ s := by
  obtain ⟨h1, h2, h3, h4⟩ := h
  refine ⟨fun i hi => ⟨fun k k1 k5 => ?_, ?_⟩, fun i hi hp => ?_, fun i hi hl => ?_, h4⟩
  · rw [← hc (b + k) (by omega) (by omega)]
    exact (h1 i hi).1 k k1 k5
  · rw [← h6]
    exact (h1 i hi).2
  · rw [← hc (b + 7) (by omega) (by omega), ← hc (b + 8) (by omega) (by omega)]
    exact h2 i hi hp
  · rw [← hc (b + 9) (by omega) (by omega)]
    exact h3 i hi hl
theorem PARG.mv {t x v : Nat} {σ τ s w : ST} {pa pb pl : Int32} {l k : List EN} (h : PARG t σ τ x v pa pb pl l k) (hT : TRE t σ s τ w) : PARG t s w x v pa pb pl l k := by
  obtain ⟨hc, h6, hB, h21, h22⟩ := hT
  rcases h with h | ⟨x0, v0, Q, h1, h2, h3, h4, h5, h6', h7⟩
  · exact .inl h
  · refine .inr ⟨x0, v0, Q, h1, ?_, fun y hy => ?_, h4, h5, h6', ?_⟩
    · unfold KDS at h2 ⊢
      rw [hc (t + 9) (by omega) (by omega), hc (t + 7) (by omega) (by omega), hc (t + 8) (by omega) (by omega), hB 30 (by omega) (by omega), hB 28 (by omega) (by omega), hB 29 (by omega) (by omega), hB 23 (by omega) (by omega)]
      exact h2
    · rw [hc (t + 3) (by omega) (by omega), hB 25 (by omega) (by omega)]
      exact h3 y hy
    · rw [hB 20 (by omega) (by omega)]
      exact h7
/-- nothing is made of it -/
theorem r_183s {b t : Nat} (w : Int64) (n p3 p2 : Int32) (s : ST) : QT (f_X4_takePlain_183 b t w n p3 p2 (-1) s) (fun z => z = s) := by
  unfold f_X4_takePlain_183 f_X4_addNode
  rw [if_pos rfl, sbnd]
  exact QT.ret rfl
theorem r_leafs {b t m L : Nat} {S T σ τ : ST} {x : Nat} (hC : RCX b t m S T σ τ x) (s p2 p3 u v : Int32) (hu : 0 ≤ u.toInt ∧ u.toInt < 800) (hs : τ.1 2 u.toNatClampNeg = s) (hs5 : 0 ≤ s.toInt ∧ s.toInt ≤ 5) (xB : Int32) (hxB : xB.toInt < 0) : QT (f_X4_takePlain b t s (-1) p2 p3 σ) (fun z => QT (f_X11_readsLeaf u v xB τ) (ROUT b (RSK b t m L S T x σ τ) z)) := by
  have hb := hC.1.1.1
  have lm := li_m1
  refine rd_leaf hb s (-1) (-1) p2 p3 u v xB hC.2.1 hu hs hs5 (fun z _ => a4_sortOf_m1 z) 0 (.inl ⟨rfl, hxB, by rw [lm]; omega⟩) (fun z w h1 h2 => .inl ⟨h1, h2⟩) (fun _ s' t' w n hR hA hB => ?_) (fun h => absurd rfl h)
  refine (r_183s w n p3 p2 s').mono (fun z hz => ?_)
  rw [hz]
  exact .inr ⟨rfl, hC.mv hR hA hB, PM.tre hb hA hB, hA.srk⟩
/-- a row of one value: what is said of it -/
theorem r_kid {b t m q L : Nat} {S T : ST} {tA tB so br : Int32} {x : Nat} {pa pl : Int32} {l k : List EN} {σ τ s τ1 z w : ST} (hP : PARG t σ τ x x pa pa pl l k) (gA : GRW t x so pa pl (rA l) (rA k) σ s) (gB : GRB x so pa pl br (rB l) (rB k) τ τ1) (hA : SUA t x s z) (hB : SUB x τ1 w) {e : Nat} (hC : RCX b t m S T z w e) (hxe : x < e) (hV : VAL True t q S T z w (32 - L) tA tB (x, e) (x, e)) (hS : SRK b L σ z) : RVP b t m q L S T tA tB x pa pl l k σ τ z w := by
  have hlt := hP.lt
  refine ⟨e, hC, hxe, hV, ⟨⟨?_, ?_⟩, ⟨?_, ?_⟩, ?_⟩, ⟨XTA.mk gA hA hlt.2.2.1 hlt.1, XTB.mk gB hB hlt.2.2.2.1 hlt.2.1⟩, hS⟩
  · exact hA.2.2.2.1.trans gA.2.2.1.2.1
  · exact hA.2.2.2.2.1.trans gA.2.2.1.2.2.1
  · exact (hB.2.2.2 24 (by omega) (by omega)).trans gB.2.2.1.2.1.1
  · exact (hB.2.2.2 25 (by omega) (by omega)).trans gB.2.2.1.2.1.2
  · rw [hA.2.2.2.2.2, gA.2.2.1.2.2.2.2.1, hB.2.2.2 27 (by omega) (by omega), gB.2.2.1.2.2.1.2]
theorem lfs_krb {x : Nat} {bits txt : Int64} {many : Int32} {τ : ST} : KRB τ (LFS τ x bits txt many) := ((KRB.rf.l (.inr (.inl rfl))).l (.inr (.inr rfl))).i (by omega)
/-- a leaf that the reader wants -/
theorem r_leafn {b t m q L : Nat} {S T : ST} {tA tB uA uB so br : Int32} {x : Nat} {pa pl : Int32} {l k : List EN} {σ τ τ1 : ST} (hP : PARG t σ τ x x pa pa pl l k) (hC : RCX b t m S T σ τ x) (hx4 : x < 400) (hSS : RSS b t S) (hL : L ≤ 31) (s u xB : Int32) (gB : GRB x so pa pl br (rB l) (rB k) τ τ1) (hxB : xB.toInt = x) (hu : 0 ≤ u.toInt ∧ u.toInt < 800) (hs : T.1 2 u.toNatClampNeg = s) (hs5 : 0 ≤ s.toInt ∧ s.toInt ≤ 5) (huB : 0 ≤ uB.toInt ∧ uB.toInt < 800) (hso : T.1 2 uB.toNatClampNeg = so) (hso5 : 0 ≤ so.toInt ∧ so.toInt ≤ 5) (hne : ¬ uA = -1) (hGA : ∀ z, KRA b t S z → f_X5_sortOf 4 uA z = some (so, z)) (hPL : PLS s.toInt so.toInt) (hO : OWN S T tA tB br uA uB) : QT (f_X4_takePlain b t s uA pa pl σ) (fun z => QT (f_X11_readsLeaf u uB xB τ1) (ROUT b (RVP b t m q L S T tA tB x pa pl l k σ τ) z)) := by
  have hC' := hC
  obtain ⟨⟨kA, kB⟩, hR0, h1, h46, _⟩ := hC'
  have hb := kA.1
  have hb' := hb
  unfold BT at hb'
  have e2 : τ1.1 2 = T.1 2 := (gB.1.1 2 (by omega) (by omega) (by omega)).trans kB.ty.1
  refine rd_leaf hb s so uA pa pl u uB xB (hR0.lays gB) hu (by rw [e2]; exact hs) hs5 (fun z hz => hGA z (kA.trans (hz.kra hb))) x (.inr ⟨hne, hxB, huB, by rw [e2]; exact hso, hPL⟩) (fun z w h1 h2 => .inl ⟨h1, h2⟩) (fun h => absurd h hne) (fun _ s' t' w n bits txt many hR hA hB hE hn => ?_)
  unfold f_X4_takePlain_183
  have hPs : PARG t s' τ x x pa pa pl l k := hP.mv (PM.tre hb hA PMB.rf)
  have kA' := kA.trans (hA.kra hb)
  have st : s'.1 t = σ.1 t := hA.1 t (by omega)
  have s22 : s'.2.2.2 b = t := by rw [hA.2.2, kA.2.2.2.2.1]; exact hSS.1
  have scap : 400 ≤ (s'.1 t 0).toInt := by rw [st, kA.2.2.1.2 0 (by omega)]; exact hSS.2.1
  refine QT.bnd (a_addNode hb uA pa pl n w so s' hne hR.1.1 s22 (by rw [st]; exact h1) scap (hGA s' kA') hPs.gA) (fun qz hq => QT.ret ?_)
  rcases hq with ⟨_, h2⟩ | ⟨_, hq1, s2, g, e⟩
  · omega
  rw [e]
  generalize hz : stL (stI s2 (t + 4) x n) (t + 6) x w = z
  generalize hw : LFS t' x bits txt many = w'
  have zc : ∀ d, d ≠ t + 4 → z.1 d = s2.1 d := fun d hd => by rw [← hz]; exact stI_ne hd
  have zL : ∀ d, d ≠ t + 6 → z.2.1 d = s2.2.1 d := fun d hd => by rw [← hz]; exact stL_ne hd
  have wc : ∀ d, d ≠ 23 → w'.1 d = t'.1 d := fun d hd => by rw [← hw]; exact stI_ne hd
  have sA : SUA t x s2 z := by rw [← hz]; exact SUA.set
  have sB0 : SUB x τ1 t' := SUB.eq (fun c hc => hB.1 c (by omega)) ⟨hB.2.2 21 (by omega), hB.2.2 22 (by omega)⟩
  have sB : SUB x τ1 w' := by rw [← hw]; exact sB0.trans SUB.set
  have kz : KRA b t s2 z := by rw [← hz]; exact set_kra hb
  have kw : KRB t' w' := by rw [← hw]; exact lfs_krb
  have hRz : RPS b m z w' := by
    unfold RPS at hR ⊢
    rw [zc b (by omega), zc 38 (by omega), wc 0 (by omega), wc 34 (by omega), g.1.1 b (by omega), g.1.1 38 (by omega)]
    exact hR
  have hCz : RCX b t m S T z w' (x + 1) := by
    refine ⟨⟨kA'.trans ((g.kra hb).trans kz), kB.trans (gB.krb.trans (hB.krb.trans kw))⟩, hRz, ?_, ?_, by omega⟩
    · rw [zc t (by omega), g.2.1]
      omega
    · rw [wc 0 (by omega), hB.2.1 46 (by omega) (by omega), gB.2.1]
      omega
  have hS : SRK b L s' z := fun i _ => by rw [zc (b + 2) (by omega), g.1.1 (b + 2) (by omega)]
  have hV : VAL True t q S T z w' (32 - L) tA tB (x, x + 1) (x, x + 1) := by
    rw [show 32 - L = (31 - L) + 1 by omega]
    have b20 : w'.1 20 x = so := (sB.2.2.1).trans gB.2.2.1.1.1
    have b26 : w'.1 26 x = br := (sB.2.2.2 26 (by omega) (by omega)).trans gB.2.2.1.2.2.1.1
    have a1 : z.1 (t + 1) x = so := (sA.2.2.1).trans g.2.2.1.1
    refine ⟨⟨by show x < x + 1; omega, by show x < x + 1; omega⟩, uA, uB, ?_, ⟨⟨?_, ?_⟩, ?_⟩, fun _ => ?_, fun h => ?_, fun h => ?_, fun h => ?_⟩
    · show OWN S T tA tB (w'.1 26 x) uA uB
      rw [b26]
      exact hO
    · exact hso.trans b20.symm
    · exact a1.trans b20.symm
    · show 0 ≤ (w'.1 20 x).toInt ∧ (w'.1 20 x).toInt ≤ 7
      rw [b20]
      omega
    · refine ⟨?_, rfl⟩
      show LEAF t z w' x x
      have a7 : z.1 (t + 7) x = s2.1 (t + 7) x := by rw [zc _ (by omega)]
      have a6 : z.2.1 (t + 6) x = w := by rw [← hz, stLA, upLA rfl]
      have a4 : z.1 (t + 4) x = n := by
        rw [← hz]
        show (stI s2 (t + 4) x n).1 (t + 4) x = _
        rw [stI_at, upA rfl]
      have b28 : w'.1 28 x = τ1.1 28 x := by rw [wc _ (by omega), hB.1 28 (by omega)]
      have b21 : w'.2.1 21 x = bits := by
        rw [← hw]
        show (stL (stL t' 21 x bits) 22 x txt).2.1 21 x = _
        rw [stL_ne (by omega), stLA, upLA rfl]
      have b22 : w'.2.1 22 x = txt := by
        rw [← hw]
        show (stL (stL t' 21 x bits) 22 x txt).2.1 22 x = _
        rw [stLA, upLA rfl]
      have b23 : w'.1 23 x = many := by
        rw [← hw]
        show (stI (stL (stL t' 21 x bits) 22 x txt) 23 x many).1 23 x = _
        rw [stI_at, upA rfl]
      unfold LEAF
      rw [a7, b28, b20, a6, b21, b22, b23, a4]
      exact ⟨⟨g.2.2.2.2.1.1, gB.2.2.2.2.1.1⟩, hE, hn⟩
    · have h : 6 ≤ (w'.1 20 x).toInt := h
      rw [b20] at h
      omega
    · have h : (w'.1 20 x).toInt = 6 := h
      rw [b20] at h
      omega
    · have h : (w'.1 20 x).toInt = 7 := h
      rw [b20] at h
      omega
  obtain ⟨e', k1, k2, k3, k4, ⟨k5, k6⟩, k7⟩ := r_kid hPs g gB sA sB hCz (by omega) hV hS
  exact .inr ⟨rfl, e', k1, k2, k3, k4, ⟨k5.src (fun c _ _ => hA.1 c (by omega)) (by rw [hA.2.2]), k6⟩, hA.srk.trans k7⟩
/-! lists that are read, both sides -/
def STP (b : Nat) (σ s : ST) : Prop := (∀ c, c ≠ b → c ≠ b + 1 → s.1 c = σ.1 c) ∧ (∀ i, i ≠ 10 → s.1 b i = σ.1 b i) ∧ s.2 = σ.2
def STB (τ w : ST) : Prop := (∀ c, c ≠ 0 → c ≠ 36 → w.1 c = τ.1 c) ∧ (∀ i, i ≠ 57 → w.1 0 i = τ.1 0 i) ∧ w.2 = τ.2
theorem STP.rf {b : Nat} {σ : ST} : STP b σ σ := ⟨fun _ _ _ => rfl, fun _ _ => rfl, rfl⟩
theorem STB.rf {τ : ST} : STB τ τ := ⟨fun _ _ _ => rfl, fun _ _ => rfl, rfl⟩
theorem STB.i {τ : ST} {v : Int32} : STB τ (stI τ 0 57 v) := ⟨fun c h _ => stI_ne h, fun i hi => by rw [stI_at, upN hi], rfl⟩
theorem a_step26 (b t : Nat) (σ : ST) : QT (f_X4_step_26 b t σ) (fun s => STP b σ s) := by
  unfold f_X4_step_26
  exact QT.ret ⟨fun c h _ => stI_ne h, fun i hi => by rw [stI_at, upN hi], rfl⟩
theorem a_step (b t : Nat) (p0 : Int32) (σ : ST) : QT (f_X4_step b t p0 σ) (fun s => STP b σ s) := by
  unfold f_X4_step
  refine QT.ite (fun _ => a_step26 b t σ) (fun _ => QT.ite (fun _ => a_step26 b t σ) (fun _ => QT.grd (fun _ => ?_)))
  refine (a_step26 b t _).mono (fun s hs => ?_)
  refine ⟨fun c h1 h2 => (hs.1 c h1 h2).trans (stI_ne h2), fun i hi => (hs.2.1 i hi).trans (by rw [stI_ne (by omega)]), hs.2.2⟩
theorem a_stepBack (b t : Nat) (σ : ST) : QT (f_X4_stepBack b t σ) (fun s => STP b σ s) := by
  unfold f_X4_stepBack
  exact QT.ite (fun _ => QT.ret ⟨fun c h _ => stI_ne h, fun i hi => by rw [stI_at, upN hi], rfl⟩) (fun _ => QT.ret STP.rf)
theorem q_enters (p0 : Int32) (τ : ST) : QT (f_X11_enters p0 τ) (fun w => STB τ w) := by
  unfold f_X11_enters
  refine QT.grd (fun _ => QT.lt (fun z ez => QT.ret ?_))
  subst ez
  refine ⟨fun c h0 h36 => ?_, fun i hi => ?_, rfl⟩
  · rw [stI_ne h0, stI_ne h36]
  · rw [stI_at, upN hi, stI_ne (by omega)]
theorem STP.kra {b t : Nat} {σ s : ST} (hb : BT b t) (h : STP b σ s) : KRA b t σ s := by
  have hb' := hb
  unfold BT at hb'
  exact ⟨hb, fun c a _ => h.1 c (by omega) (by omega), ⟨fun i _ _ _ i10 => h.2.1 i i10, fun i _ => by rw [h.1 t (by omega) (by omega)]⟩, fun c _ => by rw [h.2.2], by rw [h.2.2], fun hn => by rw [h.2.1 7 (by omega)]; exact hn⟩
theorem STB.krb {τ w : ST} (h : STB τ w) : KRB τ w := ⟨fun c h0 _ _ h36 _ => h.1 c h0 h36, fun i _ h57 _ _ _ _ _ => h.2.1 i h57, fun c _ _ _ => by rw [h.2.2]⟩
/-- a step of the path on both sides -/
theorem RCX.st {b t m : Nat} {S T σ τ s w : ST} {x : Nat} (h : RCX b t m S T σ τ x) (hA : STP b σ s) (hB : STB τ w) : RCX b t m S T s w x := by
  obtain ⟨⟨h1, h2⟩, hR, h3, h4, h5⟩ := h
  have hb := h1.1
  have hb' := hb
  unfold BT at hb'
  refine ⟨⟨h1.trans (hA.kra hb), h2.trans hB.krb⟩, ?_, ?_, ?_, h5⟩
  · unfold RPS at hR ⊢
    rw [hA.2.1 7 (by omega), hA.2.1 4 (by omega), hA.2.1 5 (by omega), hA.2.1 6 (by omega), hA.1 38 (by omega) (by omega), hB.2.1 63 (by omega), hB.2.1 64 (by omega), hB.2.1 65 (by omega), hB.1 34 (by omega) (by omega)]
    exact hR
  · rw [hA.1 t (by omega) (by omega)]
    exact h3
  · rw [hB.2.1 46 (by omega)]
    exact h4
theorem ST.tre {b t : Nat} {σ s τ w : ST} (hb : BT b t) (h : STP b σ s) (k : STB τ w) : TRE t σ s τ w := by
  have hb' := hb
  unfold BT at hb'
  exact ⟨fun c _ _ => h.1 c (by omega) (by omega), by rw [h.2.2], fun c _ _ => k.1 c (by omega) (by omega), by rw [k.2.2], by rw [k.2.2]⟩
theorem STP.srk {b L : Nat} {σ s : ST} (h : STP b σ s) : SRK b L σ s := fun i _ => by rw [h.1 (b + 2) (by omega) (by omega)]
theorem RSK.trans {b t m L : Nat} {S T : ST} {x : Nat} {σ τ s w u z : ST} (h : RSK b t m L S T x σ τ s w) (k : RSK b t m L S T x s w u z) : RSK b t m L S T x σ τ u z := ⟨k.1, h.2.1.trans k.2.1, h.2.2.trans k.2.2⟩
theorem RSK.wk {b t m L M : Nat} {S T : ST} {x : Nat} {σ τ s w : ST} (h : RSK b t m M S T x σ τ s w) (hL : L ≤ M) : RSK b t m L S T x σ τ s w := ⟨h.1, h.2.1, h.2.2.wk hL⟩
theorem RSK.st {b t m L : Nat} {S T : ST} {x : Nat} {σ τ s w : ST} (h : RCX b t m S T σ τ x) (hA : STP b σ s) (hB : STB τ w) : RSK b t m L S T x σ τ s w := ⟨h.st hA hB, ST.tre h.1.1.1 hA hB, hA.srk⟩
abbrev FTK : Type := Nat → Nat → Int32 → Int32 → Int32 → Int32 → Int32 → ST → Option ST
abbrev FRD : Type := Int32 → Int32 → Int32 → Int32 → Int32 → ST → Option (Int32 × ST)
/-- both read a value, one that the reader wants or not -/
def cTK (b t m p q : Nat) (S T : ST) (ra : FTK) (rb : FRD) : Prop := ∀ (x u lev : Int32) (L d xr : Nat) (σ τ : ST), TY p (T.1 8 p).toInt S T d x u → d ≤ 4 → lev.toInt = L → L ≤ 31 → RCX b t m S T σ τ xr →
  (∀ (pa pl pb pl' : Int32), QT (ra b t x (-1) pa pl lev σ) (fun s => QT (rb u (-1) lev pb pl' τ) (ROUT b (RSK b t m L S T xr σ τ) s))) ∧
  (∀ (y v pa pl : Int32) (e : Nat) (l k : List EN), ¬ y = -1 → TY q (T.1 8 q).toInt S T e y v → e ≤ 4 → MS T u v → PARG t σ τ xr xr pa pa pl l k → QT (ra b t x y pa pl lev σ) (fun s => QT (rb u v lev pa pl τ) (ROUT b (RVP b t m q L S T y v xr pa pl l k σ τ) s)))
/-- behind a failure nothing more is read -/
theorem ad_48 {rT rF rL rO rR : FTK} {b t : Nat} (x1 x5 x6 x7 x8 : Int32) {σ : ST} (h : ¬ σ.1 b 7 = 0) (n : Nat) (x9 : Int32) : QT (f_X4_takeList_48 rT rF rL rO rR b t n x1 x5 x6 x7 x8 x9 σ) (fun s => ¬ s.1 b 7 = 0) := by
  cases n with
  | zero =>
    rw [f_X4_takeList_48]
    exact QT.none
  | succ n =>
    rw [f_X4_takeList_48]
    exact QT.ite (fun _ => QT.ret h) (fun _ => QT.ite (fun e => absurd e h) (fun _ => QT.ret h))
/-- the items of a list that the reader doesn't want -/
theorem r_items {b t m p q : Nat} {S T : ST} {rT rF rL rO rR : FTK} {rb : FRD} {rI rS : Int32 → Int32 → Int32 → Int32 → ST → Option (Int32 × ST)} (hT : cTK b t m p q S T rT rb) {L : Nat} (hL : L ≤ 30) (x1 u lev cnt x7 xB : Int32) {d x : Nat} (hlev : lev.toInt = (L : Nat)) (hX : TY p (T.1 8 p).toInt S T d x1 (T.1 3 u.toNatClampNeg)) (hd : d ≤ 4) (hu : 0 ≤ u.toInt ∧ u.toInt < 800) (hc : 0 ≤ cnt.toInt ∧ cnt.toInt ≤ 200) : ∀ (n M i : Nat) (x9 : Int32) (σ τ : ST), RCX b t m S T σ τ x → x9.toInt = i → (i : Int) ≤ cnt.toInt → QT (f_X4_takeList_48 rT rF rL rO rR b t n x1 lev cnt x7 (-1) x9 σ) (fun s => QT (f_X11_readsItems_27 rb rI rS M u (-1) lev xB cnt x9 τ) (ROUT b (RSK b t m L S T x σ τ) s)) := by
  have l0 := li_0
  have l1 := li_1
  have lm := li_m1
  have el := il_addE (x := lev) (y := 1) (by omega) (by omega)
  intro n
  induction n with
  | zero =>
    intro M i x9 σ τ _ _ _
    rw [f_X4_takeList_48]
    exact QT.none
  | succ n ih =>
    intro M i x9 σ τ hC h9 hi
    cases M with
    | zero =>
      refine fun s _ => ?_
      rw [f_X11_readsItems_27]
      exact QT.none
    | succ M =>
      rw [f_X4_takeList_48, f_X11_readsItems_27]
      refine QT.ile (fun hle => QT.ret ?_) (fun hlt => ?_)
      · exact QT.ile (fun _ => QT.ret (.inr ⟨rfl, hC, TRE.rf, SRK.rf⟩)) (fun h => by omega)
      refine QT.ite (fun _ => ?_) (fun h => absurd hC.2.1.1.1 h)
      refine QT.sw ?_
      refine QT.ile (fun h => by omega) (fun _ => ?_)
      refine QT.bnd (q_enters _ τ) (fun τ1 hτ1 => ?_)
      refine QT.grd (fun _ => ?_)
      refine QT.ile (fun h => by omega) (fun _ => ?_)
      unfold f_X11_readsItems_64
      have e3 : τ1.1 3 = T.1 3 := (hτ1.1 3 (by omega) (by omega)).trans hC.1.2.ty.2.1
      rw [e3]
      refine QT.sw ?_
      refine QT.bnd (a_step b t _ σ) (fun σ1 hσ1 => ?_)
      have hC1 := hC.st hσ1 hτ1
      refine QT.bnd2 ((hT x1 (T.1 3 u.toNatClampNeg) (lev + 1) (L + 1) d x σ1 τ1 hX hd (by omega) (by omega) hC1).1 x7 x9 xB x9) (fun s w hsw => ?_)
      rcases hsw with ⟨f1, f2⟩ | ⟨w1, hK⟩
      · refine QT.bnd (a_stepBack b t s) (fun s2 hs2 => ?_)
        refine (ad_48 x1 lev cnt x7 (-1) (by rw [hs2.2.1 7 (by omega)]; exact f1) n _).mono (fun z hz => ?_)
        exact QT.ite (fun _ => QT.ret (.inl ⟨hz, rfl⟩)) (fun h => absurd f2 h)
      · refine QT.bnd (a_stepBack b t s) (fun s2 hs2 => ?_)
        refine QT.sw ?_
        refine QT.ite (fun h => by rw [w1] at h; exact absurd h one_ne) (fun _ => ?_)
        refine QT.sw ?_
        have hK1 : RSK b t m L S T x σ τ s w.2 := (RSK.st hC hσ1 hτ1).trans (hK.wk (by omega))
        have hB2 : STB w.2 (stI w.2 0 57 (w.2.1 0 57 - 1)) := STB.i
        have e9 := il_addE (x := x9) (y := 1) (by omega) (by omega)
        refine (ih M (i + 1) (x9 + 1) s2 _ (hK1.1.st hs2 hB2) (by omega) (by omega)).mono2 (fun z v hz => hz.imp (fun h => (hK1.trans (RSK.st hK1.1 hs2 hB2)).trans h))
theorem r_list {b t m p q : Nat} {S T : ST} {rT rF rL rO rR : FTK} {rb : FRD} {rI rS : Int32 → Int32 → Int32 → Int32 → ST → Option (Int32 × ST)} (hT : cTK b t m p q S T rT rb) {L : Nat} (hL : L ≤ 30) (x1 u lev pa pl xB : Int32) {d x : Nat} (hlev : lev.toInt = L) (hX : TY p (T.1 8 p).toInt S T d x1 (T.1 3 u.toNatClampNeg)) (hd : d ≤ 4) (hu : 0 ≤ u.toInt ∧ u.toInt < 800) (σ τ : ST) (hC : RCX b t m S T σ τ x) : QT (f_X4_takeList rT rF rL rO rR b t x1 (-1) pa pl lev σ) (fun s => QT (f_X11_readsItems rb rI rS u (-1) lev xB τ) (ROUT b (RSK b t m L S T x σ τ) s)) := by
  have hb := hC.1.1.1
  have z200 : (200 : Int32).toInt64 = 200 := by decide
  have z200' : (200 : Int64).toInt = 200 := by decide
  unfold f_X4_takeList f_X11_readsItems
  rw [← hC.2.1.2.1.1]
  refine QT.bnd2 (rd_count hb (σ.1 b 5) 200 200 z200 σ τ hC.2.1) (fun q1 w hqw => ?_)
  have ha : ∀ s : ST, f_X4_addNode b t (-1) pa pl q1.1 0 s = some (-1, s) := fun s => by
    unfold f_X4_addNode
    exact if_pos rfl
  rw [ha, sbnd]
  refine QT.ite (fun _ => ?_) (fun h => absurd rfl h)
  unfold f_X4_takeList_43
  rcases hqw with ⟨f1, f2⟩ | ⟨e0, hR, ⟨hA, hB⟩, e1, e2, e3⟩
  · refine (ad_48 x1 lev q1.1 (-1) (-1) f1 FU 0).mono (fun z hz => ?_)
    exact QT.ite (fun _ => QT.ret (.inl ⟨hz, rfl⟩)) (fun h => absurd f2 h)
  · have ei : q1.1.toInt = (w.2.2.1 0 70).toInt := by
      rw [e1]
      show (w.2.2.1 0 70).toInt32.toInt = _
      rw [Int64.toInt_toInt32]
      exact Int.bmod_eq_of_le (by omega) (by omega)
    refine QT.sw ?_
    refine QT.ite (fun h => by rw [e0] at h; exact absurd h one_ne) (fun _ => ?_)
    refine QT.sw ?_
    rw [← e1]
    have hK : RSK b t m L S T x σ τ q1.2 w.2 := ⟨hC.mv hR hA hB, PM.tre hb hA hB, hA.srk⟩
    exact (r_items hT hL x1 u lev q1.1 (-1) xB hlev hX hd hu ⟨by omega, by omega⟩ FU FU 0 0 q1.2 w.2 hK.1 li_0 (by omega)).mono2 (fun z v hz => hz.imp (fun h => hK.trans h))
/-! lists that the reader wants, both sides -/
theorem TRE.sua {t : Nat} {σ s τ w : ST} (h : TRE t σ s τ w) (x : Nat) : SUA t x σ s := ⟨fun i _ => ⟨⟨fun k k1 k5 => by rw [h.1 (t + k) (by omega) (by omega)], by rw [h.2.1]⟩, by rw [h.1 (t + 7) (by omega) (by omega)], by rw [h.1 (t + 8) (by omega) (by omega)], by rw [h.1 (t + 9) (by omega) (by omega)]⟩, by rw [h.1 (t + 9) (by omega) (by omega)], by rw [h.1 (t + 1) (by omega) (by omega)], by rw [h.1 (t + 2) (by omega) (by omega)], by rw [h.1 (t + 3) (by omega) (by omega)], by rw [h.1 (t + 5) (by omega) (by omega)]⟩
theorem TRE.sub {t : Nat} {σ s τ w : ST} (h : TRE t σ s τ w) (x : Nat) : SUB x τ w := ⟨fun i _ => ⟨⟨⟨by rw [h.2.2.1 20 (by omega) (by omega)], by rw [h.2.2.1 23 (by omega) (by omega)]⟩, fun k a c => by rw [h.2.2.1 k (by omega) (by omega)], by rw [h.2.2.2.1], by rw [h.2.2.2.2]⟩, by rw [h.2.2.1 28 (by omega) (by omega)], by rw [h.2.2.1 29 (by omega) (by omega)], by rw [h.2.2.1 30 (by omega) (by omega)]⟩, by rw [h.2.2.1 30 (by omega) (by omega)], by rw [h.2.2.1 20 (by omega) (by omega)], fun k a c => by rw [h.2.2.1 k (by omega) (by omega)]⟩
theorem TRE.sam {t : Nat} {σ s τ w : ST} (h : TRE t σ s τ w) (x : Nat) : SAM t x σ s := fun j _ => ⟨⟨fun k _ _ => by rw [h.1 (t + k) (by omega) (by omega)], by rw [h.2.1]⟩, by rw [h.1 (t + 7) (by omega) (by omega)], by rw [h.1 (t + 8) (by omega) (by omega)], by rw [h.1 (t + 9) (by omega) (by omega)]⟩
theorem TRE.sbm {t : Nat} {σ s τ w : ST} (h : TRE t σ s τ w) (x : Nat) : SBM x τ w := fun j _ => ⟨⟨⟨by rw [h.2.2.1 20 (by omega) (by omega)], by rw [h.2.2.1 23 (by omega) (by omega)]⟩, fun k _ _ => by rw [h.2.2.1 k (by omega) (by omega)], by rw [h.2.2.2.1], by rw [h.2.2.2.2]⟩, by rw [h.2.2.1 28 (by omega) (by omega)], by rw [h.2.2.1 29 (by omega) (by omega)], by rw [h.2.2.1 30 (by omega) (by omega)]⟩
/-- a child of row x, of any tree -/
def CHG (rd : Prop) (b p : Nat) (S T : ST) (n x v : Nat) (tI tJ : Int32) (σ τ : ST) (y : EN) : Prop := (inA y = true ∧ KID b σ τ x v y) ∧ VAL rd b p S T σ τ n tI tJ y.2.1 y.2.2
theorem CHG.ext {rd : Prop} {b p : Nat} {S T : ST} {n x v : Nat} {tI tJ : Int32} {σ τ s t : ST} {y : EN} (h : CHG rd b p S T n x v tI tJ σ τ y) (hn : y.2.2.1 < y.2.2.2) (hA : AGA b σ s y.2.1.1 y.2.1.2) (hB : AGB τ t y.2.2.1 y.2.2.2) : CHG rd b p S T n x v tI tJ s t y := by
  have := inA_lt h.1.1
  exact ⟨⟨h.1.1, h.1.2.ext (hA _ (by omega) (by omega)).1 (hB _ (by omega) (by omega)).1⟩, h.2.ext _ _ _ _ _ hA hB⟩
/-- while the items of a list are read -/
def ILR (t q : Nat) (S T : ST) (L : Nat) (tI tJ : Int32) (x : Nat) (n : Int32) (a t1 : ST) (k : Nat) (σ τ : ST) (e : Nat) (l : List EN) : Prop := x < e ∧ (SUA t x a σ ∧ SUB x t1 τ) ∧ (l.map (fun y => y.1) = List.range k ∧ l.length = k ∧ k ≤ 200) ∧ KDS t σ τ (x, e) (x, e) l (CHG True t q S T (31 - L) x x tI tJ σ τ) ∧ (σ.1 (t + 4) x = n ∧ σ.2.1 (t + 6) x = 0) ∧ (τ.2.1 21 x = 0 ∧ τ.2.1 22 x = 0) ∧ (τ.1 20 x).toInt = 6
theorem ILR.rows {t q : Nat} {S T : ST} {L : Nat} {tI tJ : Int32} {x : Nat} {n : Int32} {a t1 : ST} {k : Nat} {σ τ : ST} {e : Nat} {l : List EN} (h : ILR t q S T L tI tJ x n a t1 k σ τ e l) : (∀ r, r ∈ rA l → x < r) ∧ ∀ r, r ∈ rB l → x < r := by
  obtain ⟨_, _, _, hK, _⟩ := h
  refine ⟨fun r hr => ?_, fun r hr => ?_⟩
  · obtain ⟨y, y1, y2, y3⟩ := mem_rA hr
    have k : x < y.2.1.1 := ((hK.2.2.2 y y1).2.1.1 y2).1
    omega
  · obtain ⟨y, y1, y3⟩ := mem_rB hr
    have k : x < y.2.2.1 := (hK.2.2.2 y y1).1.1
    omega
theorem ILR.par {t q : Nat} {S T : ST} {L : Nat} {tI tJ : Int32} {x : Nat} {n : Int32} {a t1 : ST} {k : Nat} {σ τ : ST} {e : Nat} {l : List EN} (h : ILR t q S T L tI tJ x n a t1 k σ τ e l) {row pl : Int32} (hr : row.toInt = x) (hp : pl.toInt = k) : PARG t σ τ e e row row pl l [] := by
  obtain ⟨h1, _, ⟨h3, _, h4⟩, hK, _, _, h5⟩ := h
  refine .inr ⟨x, x, _, ⟨⟨hr, h1⟩, hr, h1⟩, by rw [List.append_nil]; exact hK, fun y hy => ?_, fun y hy => ?_, fun y hy => (by cases hy), ⟨by omega, by omega⟩, .inr h5⟩
  · rw [List.append_nil] at hy
    obtain ⟨_, _, ⟨_, hk⟩, _⟩ := hK.2.2.2 y hy
    exact ⟨fun _ => hk.1.2, hk.2.1.2⟩
  · have : y.1 ∈ l.map (fun y => y.1) := List.mem_map.mpr ⟨y, hy, rfl⟩
    rw [h3] at this
    have := List.mem_range.mp this
    omega
theorem ILR.tre {t q : Nat} {S T : ST} {L : Nat} {tI tJ : Int32} {x : Nat} {n : Int32} {a t1 : ST} {k : Nat} {σ τ s w : ST} {e : Nat} {l : List EN} (h : ILR t q S T L tI tJ x n a t1 k σ τ e l) (hT : TRE t σ s τ w) : ILR t q S T L tI tJ x n a t1 k s w e l := by
  obtain ⟨h1, ⟨hs1, hs2⟩, h3, hK, ⟨h5, h5b⟩, ⟨h6, h6b⟩, h7⟩ := h
  refine ⟨h1, ⟨hs1.trans (hT.sua x), hs2.trans (hT.sub x)⟩, h3, ?_, ⟨?_, ?_⟩, ⟨?_, ?_⟩, ?_⟩
  · refine hK.sam (hT.sam x) (hT.sbm x) (by rw [hT.1 (t + 7) (by omega) (by omega)]) (by rw [hT.1 (t + 8) (by omega) (by omega)]) (by rw [hT.2.2.1 28 (by omega) (by omega)]) (by rw [hT.2.2.1 29 (by omega) (by omega)]) (by rw [hT.2.2.1 23 (by omega) (by omega)]) (fun y _ hx hv hn hQ => hQ.ext hn ((hT.sam x).ag (hx hQ.1.1)) ((hT.sbm x).ag hv))
  · rw [hT.1 (t + 4) (by omega) (by omega)]
    exact h5
  · rw [hT.2.1]
    exact h5b
  · rw [hT.2.2.2.1]
    exact h6
  · rw [hT.2.2.2.2]
    exact h6b
  · rw [hT.2.2.1 20 (by omega) (by omega)]
    exact h7
/-- one item more -/
theorem ILR.add {b t m q : Nat} {S T : ST} {L : Nat} {tI tJ : Int32} {x : Nat} {n : Int32} {a t1 : ST} {k : Nat} {σ τ s u : ST} {e : Nat} {l : List EN} (h : ILR t q S T L tI tJ x n a t1 k σ τ e l) {row pl : Int32} (hr : row.toInt = x) (hp : pl.toInt = k) (hk : k < 200) (hL : L ≤ 30) (hV : RVP b t m q (L + 1) S T tI tJ e row pl l [] σ τ s u) : ∃ e', RCX b t m S T s u e' ∧ ILR t q S T L tI tJ x n a t1 (k + 1) s u e' (l ++ [(k, (e, e'), (e, e'))]) ∧ SRK b (L + 1) σ s := by
  have hrow := h.rows
  obtain ⟨h1, ⟨hs1, hs2⟩, ⟨h3, h3b, h4⟩, hK, ⟨h5, h5b⟩, ⟨h6, h6b⟩, h7⟩ := h
  obtain ⟨e', hC, g1, hVal, ⟨⟨g3, g4⟩, ⟨g5, g6⟩, g7⟩, ⟨hXA, hXB⟩, hS⟩ := hV
  rw [hr] at hXA hXB
  have hsu : SUA t x σ s := hXA.su h1 (fun r hr => hrow.1 r hr)
  have hsb : SUB x τ u := hXB.su h1 (fun r hr => hrow.2 r hr)
  refine ⟨e', hC, ⟨by omega, ⟨hs1.trans hsu, hs2.trans hsb⟩, ⟨?_, ?_, by omega⟩, ?_, ⟨?_, ?_⟩, ⟨?_, ?_⟩, ?_⟩, hS⟩
  · rw [List.map_append, h3, List.range_succ]
    rfl
  · rw [List.length_append, h3b]
    rfl
  · refine KDS.add (l := l) (m := []) (Q := CHG True t q S T (31 - L) x x tI tJ σ τ) (by rw [List.append_nil]; exact hK) hXA hXB h1 h1 g1 g1 (by rw [List.append_nil]; omega) (fun y hy => ?_) (fun y hy => (by cases hy)) (fun y hy hy1 hyA hyB hQ => ?_) ?_
    · have : y.1 ∈ l.map (fun y => y.1) := List.mem_map.mpr ⟨y, hy, rfl⟩
      rw [h3] at this
      exact List.mem_range.mp this
    · exact hQ.ext hy1.2 (hyA hQ.1.1) hyB
    · refine ⟨⟨decide_eq_true g1, ⟨⟨?_, ?_⟩, ⟨?_, ?_⟩, g7⟩⟩, ?_⟩
      · show (s.1 (t + 2) e).toInt = x
        rw [g3]
        exact hr
      · show (s.1 (t + 3) e).toInt = k
        rw [g4]
        exact hp
      · show (u.1 24 e).toInt = x
        rw [g5]
        exact hr
      · show (u.1 25 e).toInt = k
        rw [g6]
        exact hp
      · have e9 : 32 - (L + 1) = 31 - L := by omega
        rw [e9] at hVal
        exact hVal
  · rw [(hXA.1 x h1).1 4 (by omega) (by omega)]
    exact h5
  · rw [(hXA.1 x h1).2]
    exact h5b
  · rw [(hXB.1.1 x h1).2.2.1]
    exact h6
  · rw [(hXB.1.1 x h1).2.2.2]
    exact h6b
  · rw [(hXB.1.1 x h1).1]
    exact h7
/-- the items, one by one -/
theorem r_itemsn {b t m p q : Nat} {S T : ST} {rT rF rL rO rR : FTK} {rb : FRD} {rI rS : Int32 → Int32 → Int32 → Int32 → ST → Option (Int32 × ST)} (hT : cTK b t m p q S T rT rb) {L : Nat} (hL : L ≤ 30) (x1 u uB inn lev cnt row : Int32) {d e0 x : Nat} (hlev : lev.toInt = L) (hX : TY p (T.1 8 p).toInt S T d x1 (T.1 3 u.toNatClampNeg)) (hd : d ≤ 4) (hY : TY q (T.1 8 q).toInt S T e0 inn (T.1 3 uB.toNatClampNeg)) (he0 : e0 ≤ 4) (hM : MS T (T.1 3 u.toNatClampNeg) (T.1 3 uB.toNatClampNeg)) (hu : 0 ≤ u.toInt ∧ u.toInt < 800) (huB : 0 ≤ uB.toInt ∧ uB.toInt < 800) (hc : 0 ≤ cnt.toInt ∧ cnt.toInt ≤ 200) (hrow : row.toInt = x) (a t1 : ST) : ∀ (n M i : Nat) (x9 : Int32) (σ τ : ST) (e : Nat) (l : List EN), RCX b t m S T σ τ e → ILR t q S T L inn (T.1 3 uB.toNatClampNeg) x cnt a t1 i σ τ e l → x9.toInt = i → (i : Int) ≤ cnt.toInt → QT (f_X4_takeList_48 rT rF rL rO rR b t n x1 lev cnt row inn x9 σ) (fun s => QT (f_X11_readsItems_27 rb rI rS M u uB lev row cnt x9 τ) (ROUT b (fun s w => ∃ (e' : Nat) (l' : List EN), RCX b t m S T s w e' ∧ ILR t q S T L inn (T.1 3 uB.toNatClampNeg) x cnt a t1 cnt.toInt.toNat s w e' l' ∧ SRK b L σ s) s)) := by
  have l0 := li_0
  have l1 := li_1
  have lm := li_m1
  have el := il_addE (x := lev) (y := 1) (by omega) (by omega)
  have ry := hY.rng.1
  intro n
  induction n with
  | zero =>
    intro M i x9 σ τ e l _ _ _ _
    rw [f_X4_takeList_48]
    exact QT.none
  | succ n ih =>
    intro M i x9 σ τ e l hC hI h9 hi
    cases M with
    | zero =>
      refine fun s _ => ?_
      rw [f_X11_readsItems_27]
      exact QT.none
    | succ M =>
      rw [f_X4_takeList_48, f_X11_readsItems_27]
      refine QT.ile (fun hle => QT.ret ?_) (fun hlt => ?_)
      · have ei : cnt.toInt.toNat = i := by omega
        rw [ei]
        exact QT.ile (fun _ => QT.ret (.inr ⟨rfl, e, l, hC, hI, SRK.rf⟩)) (fun h => by omega)
      refine QT.ite (fun _ => ?_) (fun h => absurd hC.2.1.1.1 h)
      refine QT.sw ?_
      refine QT.ile (fun h => by omega) (fun _ => ?_)
      refine QT.bnd (q_enters _ τ) (fun τ1 hτ1 => ?_)
      refine QT.grd (fun _ => ?_)
      refine QT.ile (fun _ => ?_) (fun h => by omega)
      refine QT.grd (fun _ => ?_)
      unfold f_X11_readsItems_64
      have e3 : τ1.1 3 = T.1 3 := (hτ1.1 3 (by omega) (by omega)).trans hC.1.2.ty.2.1
      rw [e3]
      refine QT.sw ?_
      refine QT.bnd (a_step b t _ σ) (fun σ1 hσ1 => ?_)
      have hC1 := hC.st hσ1 hτ1
      have hI1 := hI.tre (ST.tre hC.1.1.1 hσ1 hτ1)
      refine QT.bnd2 ((hT x1 (T.1 3 u.toNatClampNeg) (lev + 1) (L + 1) d e σ1 τ1 hX hd (by omega) (by omega) hC1).2 inn (T.1 3 uB.toNatClampNeg) row x9 e0 l [] (fun h => by rw [h] at ry; omega) hY he0 hM (hI1.par hrow h9)) (fun s w hsw => ?_)
      rcases hsw with ⟨f1, f2⟩ | ⟨w1, hK⟩
      · refine QT.bnd (a_stepBack b t s) (fun s2 hs2 => ?_)
        refine (ad_48 x1 lev cnt row inn (by rw [hs2.2.1 7 (by omega)]; exact f1) n _).mono (fun z hz => ?_)
        exact QT.ite (fun _ => QT.ret (.inl ⟨hz, rfl⟩)) (fun h => absurd f2 h)
      · refine QT.bnd (a_stepBack b t s) (fun s2 hs2 => ?_)
        refine QT.sw ?_
        refine QT.ite (fun h => by rw [w1] at h; exact absurd h one_ne) (fun _ => ?_)
        refine QT.sw ?_
        obtain ⟨e', hC2, hI2, hS2⟩ := hI1.add hrow h9 (by omega) hL hK
        have hB2 : STB w.2 (stI w.2 0 57 (w.2.1 0 57 - 1)) := STB.i
        have e9 := il_addE (x := x9) (y := 1) (by omega) (by omega)
        refine (ih M (i + 1) (x9 + 1) s2 _ e' _ (hC2.st hs2 hB2) (hI2.tre (ST.tre hC.1.1.1 hs2 hB2)) (by omega) (by omega)).mono2 (fun z v hz => hz.imp (fun h => ?_))
        obtain ⟨e3', l3, k1, k2, k3⟩ := h
        exact ⟨e3', l3, k1, k2, ((hσ1.srk.trans (hS2.wk (by omega))).trans hs2.srk).trans k3⟩
/-! a list that the reader wants -/
theorem ad_add {b t : Nat} (y pa pl n : Int32) (w : Int64) {s : ST} (h : ¬ s.1 b 7 = 0) : QT (f_X4_addNode b t y pa pl n w s) (fun z => ¬ z.2.1 b 7 = 0) := by
  unfold f_X4_addNode
  exact QT.ite (fun _ => QT.ret h) (fun _ => QT.ite (fun e => absurd e h) (fun _ => QT.ret h))
theorem ad_inner {b t : Nat} (hb : BT b t) (y : Int32) {s : ST} (h : ¬ s.1 b 7 = 0) : QT (f_X5_innerOf 4 y s) (fun z => ¬ z.2.1 b 7 = 0) := fun z e => by
  have k : KRA b t s z.2 := wr_X5_innerOf (B0 := b) (T0 := t) (s := s) (KRA.rf hb) z e
  exact k.nz h
theorem r_listn {b t m p q : Nat} {S T : ST} {rT rF rL rO rR : FTK} {rb : FRD} {rI rS : Int32 → Int32 → Int32 → Int32 → ST → Option (Int32 × ST)} (hT : cTK b t m p q S T rT rb) {L : Nat} (hL : L ≤ 30) {tA tB uA uB so br : Int32} {x : Nat} {pa pl : Int32} {l k : List EN} {σ τ τ1 : ST} (hP : PARG t σ τ x x pa pa pl l k) (hC : RCX b t m S T σ τ x) (hx4 : x < 400) (hSS : RSS b t S) (x1 u lev xB : Int32) (gB : GRB x so pa pl br (rB l) (rB k) τ τ1) (hxB : xB.toInt = x) (hlev : lev.toInt = L) {d e0 : Nat} (hX : TY p (T.1 8 p).toInt S T d x1 (T.1 3 u.toNatClampNeg)) (hd : d ≤ 4) (hY : TY q (T.1 8 q).toInt S T e0 (S.1 16 uA.toNatClampNeg) (T.1 3 uB.toNatClampNeg)) (he0 : e0 ≤ 4) (hM : MS T (T.1 3 u.toNatClampNeg) (T.1 3 uB.toNatClampNeg)) (hu : 0 ≤ u.toInt ∧ u.toInt < 800) (huB : 0 ≤ uB.toInt ∧ uB.toInt < 800) (hso : T.1 2 uB.toNatClampNeg = so) (hso6 : so.toInt = 6) (hne : ¬ uA = -1) (hGA : ∀ z, KRA b t S z → f_X5_sortOf 4 uA z = some (so, z)) (hGI : ∀ z, KRA b t S z → f_X5_innerOf 4 uA z = some (S.1 16 uA.toNatClampNeg, z)) (hO : OWN S T tA tB br uA uB) : QT (f_X4_takeList rT rF rL rO rR b t x1 uA pa pl lev σ) (fun s => QT (f_X11_readsItems rb rI rS u uB lev xB τ1) (ROUT b (RVP b t m q L S T tA tB x pa pl l k σ τ) s)) := by
  have hC' := hC
  obtain ⟨⟨kA, kB⟩, hR0, h1, h46, _⟩ := hC'
  have hb := kA.1
  have hb' := hb
  unfold BT at hb'
  have l0 := li_0
  have z200 : (200 : Int32).toInt64 = 200 := by decide
  have z200' : (200 : Int64).toInt = 200 := by decide
  have hR1 := hR0.lays gB
  unfold f_X4_takeList f_X11_readsItems
  rw [← hR1.2.1.1]
  refine QT.bnd2 (rd_count hb (σ.1 b 5) 200 200 z200 σ τ1 hR1) (fun q1 w hqw => ?_)
  rcases hqw with ⟨f1, f2⟩ | ⟨e0', hR, ⟨hA, hB⟩, e1, e2, e3⟩
  · refine QT.bnd (ad_add uA pa pl q1.1 0 f1) (fun q3 h3 => ?_)
    refine QT.ite (fun h => absurd h hne) (fun _ => ?_)
    refine QT.bnd (ad_inner hb uA h3) (fun q5 h5 => ?_)
    unfold f_X4_takeList_43
    refine (ad_48 x1 lev q1.1 q3.1 q5.1 h5 FU 0).mono (fun z hz => ?_)
    exact QT.ite (fun _ => QT.ret (.inl ⟨hz, rfl⟩)) (fun h => absurd f2 h)
  · have ei : q1.1.toInt = (w.2.2.1 0 70).toInt := by
      rw [e1]
      show (w.2.2.1 0 70).toInt32.toInt = _
      rw [Int64.toInt_toInt32]
      exact Int.bmod_eq_of_le (by omega) (by omega)
    obtain ⟨cnt, s'⟩ := q1
    obtain ⟨ok, t'⟩ := w
    have hR : RPS b m s' t' := hR
    have hA : PMA b σ s' := hA
    have hB : PMB τ1 t' := hB
    have e1 : cnt = (t'.2.1 0 70).toInt32 := e1
    have ei : cnt.toInt = (t'.2.1 0 70).toInt := ei
    have e2 : 0 ≤ (t'.2.1 0 70).toInt := e2
    have e3 : (t'.2.1 0 70).toInt ≤ (200 : Int64).toInt := e3
    dsimp only
    have hPs : PARG t s' τ x x pa pa pl l k := hP.mv (PM.tre hb hA PMB.rf)
    have kA' := kA.trans (hA.kra hb)
    have st : s'.1 t = σ.1 t := hA.1 t (by omega)
    have s22 : s'.2.2.2 b = t := by rw [hA.2.2, kA.2.2.2.2.1]; exact hSS.1
    have scap : 400 ≤ (s'.1 t 0).toInt := by rw [st, kA.2.2.1.2 0 (by omega)]; exact hSS.2.1
    refine QT.bnd (a_addNode hb uA pa pl cnt 0 so s' hne hR.1.1 s22 (by rw [st]; exact h1) scap (hGA s' kA') hPs.gA) (fun qz hq => ?_)
    rcases hq with ⟨_, h2⟩ | ⟨_, hq1, s2, g, e⟩
    · omega
    obtain ⟨row, z⟩ := qz
    have hq1 : row.toInt = x := hq1
    have erow : row = xB := Int32.toInt_inj.mp (by omega)
    subst erow
    have hz : stL (stI s2 (t + 4) x cnt) (t + 6) x 0 = z := e.symm
    have zc : ∀ d, d ≠ t + 4 → z.1 d = s2.1 d := fun d hd => by rw [← hz]; exact stI_ne hd
    have sA : SUA t x s2 z := by rw [← hz]; exact SUA.set
    have sB0 : SUB x τ1 t' := SUB.eq (fun c hc => hB.1 c (by omega)) ⟨hB.2.2 21 (by omega), hB.2.2 22 (by omega)⟩
    have kz : KRA b t s2 z := by rw [← hz]; exact set_kra hb
    have kAz : KRA b t S z := kA'.trans ((g.kra hb).trans kz)
    have a6 : z.2.1 (t + 6) x = 0 := by rw [← hz, stLA, upLA rfl]
    have a4 : z.1 (t + 4) x = cnt := by
      rw [← hz]
      show (stI s2 (t + 4) x cnt).1 (t + 4) x = _
      rw [stI_at, upA rfl]
    have hRz : RPS b m z t' := by
      unfold RPS at hR ⊢
      rw [zc b (by omega), zc 38 (by omega), g.1.1 b (by omega), g.1.1 38 (by omega)]
      exact hR
    have hCz : RCX b t m S T z t' (x + 1) := by
      refine ⟨⟨kAz, kB.trans (gB.krb.trans hB.krb)⟩, hRz, ?_, ?_, by omega⟩
      · rw [zc t (by omega), g.2.1]
        omega
      · rw [hB.2.1 46 (by omega) (by omega), gB.2.1]
        omega
    have hSz : SRK b L s' z := fun i _ => by rw [zc (b + 2) (by omega), g.1.1 (b + 2) (by omega)]
    clear hz e
    dsimp only
    refine QT.ite (fun h => absurd h hne) (fun _ => ?_)
    rw [hGI z kAz, sbnd]
    dsimp only
    unfold f_X4_takeList_43
    refine QT.sw ?_
    refine QT.ite (fun h => absurd (h.symm.trans e0') (by decide)) (fun _ => ?_)
    refine QT.sw ?_
    rw [← e1]
    have hI0 : ILR t q S T L (S.1 16 uA.toNatClampNeg) (T.1 3 uB.toNatClampNeg) x cnt z t' 0 z t' (x + 1) [] := by
      refine ⟨by omega, ⟨SUA.rf, SUB.rf⟩, ⟨rfl, rfl, by omega⟩, ⟨⟨⟨?_, ?_⟩, ?_, ?_⟩, ⟨List.Pairwise.nil, List.Pairwise.nil⟩, ⟨?_, ?_⟩, fun y hy => (by cases hy)⟩, ⟨a4, a6⟩, ⟨?_, ?_⟩, ?_⟩
      · show (z.1 (t + 7) x).toInt = -1
        rw [zc (t + 7) (by omega)]
        exact g.2.2.2.2.1.1
      · show (z.1 (t + 8) x).toInt = -1
        rw [zc (t + 8) (by omega)]
        exact g.2.2.2.2.1.2
      · show (t'.1 28 x).toInt = -1
        rw [hB.1 28 (by omega)]
        exact gB.2.2.2.2.1.1
      · show (t'.1 29 x).toInt = -1
        rw [hB.1 29 (by omega)]
        exact gB.2.2.2.2.1.2
      · show (t'.1 23 x).toInt = ((0 : Nat) : Int)
        rw [hB.1 23 (by omega), gB.2.2.1.1.2]
        exact l0
      · refine ⟨?_, rfl⟩
        show 0 + x < x + 1
        omega
      · rw [hB.2.2 21 (by omega)]
        exact gB.2.2.1.2.2.2.1
      · rw [hB.2.2 22 (by omega)]
        exact gB.2.2.1.2.2.2.2
      · rw [hB.1 20 (by omega), gB.2.2.1.1.1]
        exact hso6
    refine (r_itemsn hT hL x1 u uB (S.1 16 uA.toNatClampNeg) lev cnt row hlev hX hd hY he0 hM hu huB ⟨by omega, by omega⟩ hq1 z t' FU FU 0 0 z t' (x + 1) [] hCz hI0 l0 (by omega)).mono2 (fun s v hz => hz.imp (fun h => ?_))
    obtain ⟨e', l', hCe, ⟨i1, ⟨i2, i3⟩, ⟨i4, i5, i6⟩, i7, ⟨i8, i9⟩, ⟨i10, i11⟩, i12⟩, hSe⟩ := h
    have sA' := sA.trans i2
    have sB' := sB0.trans i3
    have hV : VAL True t q S T s v.2 (32 - L) tA tB (x, e') (x, e') := by
      rw [show 32 - L = (31 - L) + 1 by omega]
      have b20 : v.2.1 20 x = so := (sB'.2.2.1).trans gB.2.2.1.1.1
      have b26 : v.2.1 26 x = br := (sB'.2.2.2 26 (by omega) (by omega)).trans gB.2.2.1.2.2.1.1
      have a1 : s.1 (t + 1) x = so := (sA'.2.2.1).trans g.2.2.1.1
      refine ⟨⟨i1, i1⟩, uA, uB, ?_, ⟨⟨?_, ?_⟩, ?_⟩, fun h => ?_, fun _ => ?_, fun _ => ?_, fun h => ?_⟩
      · show OWN S T tA tB (v.2.1 26 x) uA uB
        rw [b26]
        exact hO
      · exact hso.trans b20.symm
      · exact a1.trans b20.symm
      · show 0 ≤ (v.2.1 20 x).toInt ∧ (v.2.1 20 x).toInt ≤ 7
        rw [b20]
        omega
      · have h : (v.2.1 20 x).toInt ≤ 5 := h
        rw [b20] at h
        omega
      · show s.2.1 (t + 6) x = v.2.2.1 21 x ∧ v.2.2.1 22 x = 0
        rw [i9, i10, i11]
        exact ⟨rfl, rfl⟩
      · refine ⟨l', by rw [i5]; exact i4, by omega, ?_, i7⟩
        show (s.1 (t + 4) x).toInt = l'.length
        rw [i8, i5]
        omega
      · have h : (v.2.1 20 x).toInt = 7 := h
        rw [b20] at h
        omega
    obtain ⟨e'', k1, k2, k3, k4, ⟨k5, k6⟩, k7⟩ := r_kid hPs g gB sA' sB' hCe i1 hV (hSz.trans hSe)
    exact ⟨e'', k1, k2, k3, k4, ⟨k5.src (fun c _ _ => hA.1 c (by omega)) (by rw [hA.2.2]), k6⟩, hA.srk.trans k7⟩
/-! where the fields of a record come from, both sides -/
/-- field j of the reader's record r comes from z, one of the writer's record w -/
def SRJ (T : ST) (p q w r mW : Nat) (wi : Int32) (j : Nat) (z : Int32) : Prop := ∀ f : Int32, f.toInt = 8 * (6 * (q : Int) + r) + j → ∃ y : Int32, f_X11_fieldFor wi f T = some (y, T) ∧ (z.toInt = -1 ∧ y.toInt = -1 ∨ ∃ i : Nat, i < mW ∧ z.toInt = i ∧ y.toInt = 8 * (6 * (p : Int) + w) + i)
/-- a pair of records that match -/
def RPR (p q : Nat) (T : ST) (xR yR u uB : Int32) (w r mW mR : Nat) : Prop := (xR.toInt = 6 * (p : Int) + w ∧ yR.toInt = 6 * (q : Int) + r) ∧ ((w : Int) < (T.1 8 p).toInt ∧ (r : Int) < (T.1 8 q).toInt) ∧ ((T.1 3 u.toNatClampNeg).toInt = w ∧ (T.1 3 uB.toNatClampNeg).toInt = r) ∧ ((T.1 11 (6 * p + w)).toInt = mW ∧ (T.1 11 (6 * q + r)).toInt = mR) ∧ ¬ T.1 35 (6 * w + r) = 0
theorem KRB.ff {T τ : ST} (h : KRB T τ) {wi f v : Int32} (k : f_X11_fieldFor wi f τ = some (v, τ)) : f_X11_fieldFor wi f T = some (v, T) := ff_tr (h.2.1 53 (by omega) (by omega) (by omega) (by omega) (by omega) (by omega) (by omega)).symm h.fl.2.1.symm h.ch.2.2.2.1.symm h.ch.2.2.2.2.1.symm wi f v k
theorem KRB.ff' {T τ : ST} (h : KRB T τ) {wi f v : Int32} (k : f_X11_fieldFor wi f T = some (v, T)) : f_X11_fieldFor wi f τ = some (v, τ) := ff_tr (h.2.1 53 (by omega) (by omega) (by omega) (by omega) (by omega) (by omega) (by omega)) h.fl.2.1 h.ch.2.2.2.1 h.ch.2.2.2.2.1 wi f v k
/-- but for the sources of a level -/
def FSA (b L : Nat) (σ s : ST) : Prop := (∀ c, c ≠ b + 2 → s.1 c = σ.1 c) ∧ (∀ i, i < 8 * L → s.1 (b + 2) i = σ.1 (b + 2) i) ∧ s.2 = σ.2
theorem FSA.rf {b L : Nat} {σ : ST} : FSA b L σ σ := ⟨fun _ _ => rfl, fun _ _ => rfl, rfl⟩
theorem FSA.kra {b t L : Nat} {σ s : ST} (hb : BT b t) (h : FSA b L σ s) : KRA b t σ s := by
  have hb' := hb
  unfold BT at hb'
  exact ⟨hb, fun c a _ => h.1 c (by omega), ⟨fun i _ _ _ _ => by rw [h.1 b (by omega)], fun i _ => by rw [h.1 t (by omega)]⟩, fun c _ => by rw [h.2.2], by rw [h.2.2], fun hn => by rw [h.1 b (by omega)]; exact hn⟩
theorem RCX.fs {b t m L : Nat} {S T σ τ s : ST} {x : Nat} (h : RCX b t m S T σ τ x) (hA : FSA b L σ s) : RCX b t m S T s τ x := by
  obtain ⟨⟨h1, h2⟩, hR, h3, h4, h5⟩ := h
  have hb := h1.1
  have hb' := hb
  unfold BT at hb'
  refine ⟨⟨h1.trans (hA.kra hb), h2⟩, ?_, ?_, h4, h5⟩
  · unfold RPS at hR ⊢
    rw [hA.1 b (by omega), hA.1 38 (by omega)]
    exact hR
  · rw [hA.1 t (by omega)]
    exact h3
theorem FSA.tre {b t L : Nat} {σ s τ : ST} (hb : BT b t) (h : FSA b L σ s) : TRE t σ s τ τ := by
  have hb' := hb
  unfold BT at hb'
  exact ⟨fun c _ _ => h.1 c (by omega), by rw [h.2.2], fun c _ _ => rfl, rfl, rfl⟩
theorem a_findSources3 {b t m p q : Nat} {S T τ : ST} (hS : RST p q S T) (hn : (S.1 4 1).toInt ≤ 262) {xR yR u uB lev : Int32} {w r mW mR L x : Nat} (hP : RPR p q T xR yR u uB w r mW mR) (hL : L ≤ 30) (hlev : lev.toInt = L) (σ0 : ST) : ∀ (n j : Nat) (x4 : Int32) (σ : ST), RCX b t m S T σ τ x → x4.toInt = j → j ≤ mR → FSA b L σ0 σ → (∀ i, i < j → SRJ T p q w r mW (T.1 3 u.toNatClampNeg) i (σ.1 (b + 2) (8 * L + i))) → QT (f_X4_findSources_3 b t n xR yR lev x4 σ) (fun s => RCX b t m S T s τ x ∧ FSA b L σ0 s ∧ ∀ i, i < mR → SRJ T p q w r mW (T.1 3 u.toNatClampNeg) i (s.1 (b + 2) (8 * L + i))) := by
  have l0 := li_0
  have l1 := li_1
  have l8 := li_8
  have l31 : (31 : Int32).toInt = 31 := by decide
  obtain ⟨⟨hx, hy⟩, ⟨hw, hr⟩, ⟨hu, huB⟩, ⟨hmW, hmR⟩, _⟩ := hP
  intro n
  induction n with
  | zero =>
    intro j x4 σ _ _ _ _ _
    rw [f_X4_findSources_3]
    exact QT.none
  | succ n ih =>
    intro j x4 σ hC h4 hj hF hz
    obtain ⟨hPQ, _⟩ := hS.at hC.1.1 hC.1.2
    have hp6 := hPQ.1
    have e8 := hC.1.2.fl.1
    have e11 := hC.1.2.fl.2.1
    have hw' : (w : Int) < (τ.1 8 p).toInt := by rw [e8]; exact hw
    have hr' : (r : Int) < (τ.1 8 q).toInt := by rw [e8]; exact hr
    obtain ⟨_, b2, b3, _⟩ := hPQ.2.2.1.2.acc hr'
    obtain ⟨_, _, a3, _⟩ := hPQ.2.2.1.1.acc hw'
    have cQ := hPQ.2.2.1.2.cnt
    have m8 : mR ≤ 8 := by
      have := b3.2
      rw [e11, hmR] at this
      omega
    rw [f_X4_findSources_3, a4_fieldsOf yR σ (r := 6 * q + r) (by omega) (by omega), sbnd]
    dsimp only
    have hm : (σ.1 7 (6 * q + r)).toInt = mR := by rw [b2, e11]; exact hmR
    refine QT.ile (fun hle => QT.ret ⟨hC, hF, fun i hi => hz i (by omega)⟩) (fun hlt => ?_)
    refine QT.ilt (fun h => by omega) (fun _ => ?_)
    refine QT.ile (fun h => by omega) (fun _ => ?_)
    refine QT.ile (fun h => by omega) (fun _ => ?_)
    have hwi : ((T.1 3 u.toNatClampNeg)).toInt = w := hu
    have e9 : ∀ f : Int32, f.toInt = 8 * (6 * (q : Int) + r) + j → OK (f_X5_sourceOf 4 xR yR x4 σ) (RO σ fun z => ∃ y : Int32, f_X11_fieldFor (T.1 3 u.toNatClampNeg) f τ = some (y, τ) ∧ (z.toInt = -1 ∧ y.toInt = -1 ∨ ∃ i : Nat, (i : Int) < (τ.1 11 (6 * p + w)).toInt ∧ z.toInt = i ∧ y.toInt = 8 * (6 * (p : Int) + w) + i)) := fun f hf => ab_source hPQ xR yR x4 _ f w r j hw' hr' (by rw [e11, hmR]; omega) hx hy h4 hwi hf
    obtain ⟨f0, hf0⟩ : ∃ f0 : Int32, f0.toInt = 8 * (6 * (q : Int) + r) + j := ⟨Int32.ofInt (8 * (6 * (q : Int) + r) + j), Int32.toInt_ofInt_of_le (by omega) (by omega)⟩
    refine QT.bndR (e9 f0 hf0) (fun z hz0 => ?_)
    dsimp only
    have hzj : SRJ T p q w r mW (T.1 3 u.toNatClampNeg) j z := fun f hf => by
      have ef : f = f0 := Int32.toInt_inj.mp (by omega)
      rw [ef]
      obtain ⟨y, y1, y2⟩ := hz0
      refine ⟨y, hC.1.2.ff y1, ?_⟩
      rcases y2 with y2 | ⟨i, i1, i2, i3⟩
      · exact .inl y2
      · exact .inr ⟨i, by rw [e11, hmW] at i1; omega, i2, i3⟩
    have em : (lev * 8).toInt = 8 * (L : Int) := by
      rw [Int32.mul_comm]
      have := mlE (k := 8) (y := lev) 8 l8 (by omega) (by omega)
      omega
    have ea := il_addE (x := lev * 8) (y := x4) (by omega) (by omega)
    have na : (lev * 8 + x4).toNatClampNeg = 8 * L + j := nC (by omega)
    refine QT.grd (fun _ => ?_)
    rw [na]
    unfold f_X4_findSources_56
    have e4 := il_addE (x := x4) (y := 1) (by omega) (by omega)
    have g1 : FSA b L σ (stI σ (b + 2) (8 * L + j) z) := ⟨fun c hc => stI_ne hc, fun i hi => by rw [stI_at, upN (by omega)], rfl⟩
    refine ih (j + 1) (x4 + 1) _ (hC.fs g1) (by omega) (by omega) ⟨fun c hc => (g1.1 c hc).trans (hF.1 c hc), fun i hi => (g1.2.1 i hi).trans (hF.2.1 i hi), hF.2.2⟩ (fun i hi => ?_)
    by_cases e : i = j
    · rw [e, stI_at, upA rfl]
      exact hzj
    · rw [stI_at, upN (by omega)]
      exact hz i (by omega)
theorem a_findSources {b t m p q : Nat} {S T τ : ST} (hS : RST p q S T) (hn : (S.1 4 1).toInt ≤ 262) {xR yR u uB lev : Int32} {w r mW mR L x : Nat} (hP : RPR p q T xR yR u uB w r mW mR) (hL : L ≤ 30) (hlev : lev.toInt = L) (σ : ST) (hC : RCX b t m S T σ τ x) : QT (f_X4_findSources b t xR yR lev σ) (fun s => RCX b t m S T s τ x ∧ FSA b L σ s ∧ ∀ i, i < mR → SRJ T p q w r mW (T.1 3 u.toNatClampNeg) i (s.1 (b + 2) (8 * L + i))) := by
  unfold f_X4_findSources
  exact a_findSources3 hS hn hP hL hlev σ FU 0 0 σ hC li_0 (by omega) FSA.rf (fun i hi => by omega)
/-- the source of a field, as it was found -/
theorem a_sourceAt (b t : Nat) {L j : Nat} (lev x8 : Int32) (σ : ST) (hL : L ≤ 30) (hlev : lev.toInt = L) (h8 : x8.toInt = j) (hj : j < 8) : f_X4_sourceAt b t lev x8 σ = some (σ.1 (b + 2) (8 * L + j), σ) := by
  have l0 := li_0
  have l8 := li_8
  have l31 : (31 : Int32).toInt = 31 := by decide
  have em : (lev * 8).toInt = 8 * (L : Int) := by
    rw [Int32.mul_comm]
    have := mlE (k := 8) (y := lev) 8 l8 (by omega) (by omega)
    omega
  have ea := il_addE (x := lev * 8) (y := x8) (by omega) (by omega)
  have na : (lev * 8 + x8).toNatClampNeg = 8 * L + j := nC (by omega)
  unfold f_X4_sourceAt
  rw [if_neg (fun h => by have := il_lt h; omega), if_neg (fun h => by have := il_le h; omega), if_neg (fun h => by have := il_lt h; omega), if_neg (fun h => by have := il_le h; omega), if_pos ⟨by omega, by omega⟩, na]
/-! records that the reader doesn't want, both sides -/
theorem a_fieldsOf_m1 (σ : ST) : f_X5_fieldsOf 4 (-1) σ = some (0, σ) := by
  unfold f_X5_fieldsOf f_X5_isRecord
  rw [if_pos (by decide), sbnd]
  exact if_pos rfl
/-- a field whose value the reader doesn't want -/
def cFLS (b t m p q : Nat) (S T : ST) (rF : FTK) (rb : FRD) : Prop := ∀ (x u lev fi row : Int32) (L d xr : Nat) (σ τ : ST), TY p (T.1 8 p).toInt S T d x u → d ≤ 4 → lev.toInt = L → L ≤ 30 → RCX b t m S T σ τ xr → ∀ (pb pl' : Int32), QT (rF b t x fi (-1) row lev σ) (fun s => QT (rb u (-1) (lev + 1) pb pl' τ) (ROUT b (RSK b t m (L + 1) S T xr σ τ) s))
theorem cfls_top {b t m p q : Nat} {S T : ST} {rT rF rL rO rR : FTK} {rb : FRD} (hT : cTK b t m p q S T rT rb) : cFLS b t m p q S T (f_X4_takeField rT rF rL rO rR) rb := by
  intro x u lev fi row L d xr σ τ hX hd hlev hL hC pb pl'
  have l0 := li_0
  have l1 := li_1
  have el := il_addE (x := lev) (y := 1) (by omega) (by omega)
  unfold f_X4_takeField
  show QT (f_X4_takeField_12 rT rF rL rO rR b t (99999 + 1) x fi (-1) row lev (σ.1 b 5) 0 0 σ) _
  rw [f_X4_takeField_12, a_fieldsOf_m1, sbnd]
  dsimp only
  refine QT.ile (fun _ => ?_) (fun h => by omega)
  unfold f_X4_takeField_82
  refine QT.ite (fun _ => ?_) (fun h => absurd rfl h)
  refine QT.bnd ((hT x u (lev + 1) (L + 1) d xr σ τ hX hd (by omega) (by omega) hC).1 (-1) 0 pb pl') (fun s hs => QT.ret hs)
theorem ad_51 {rT rF rL rO rR : FTK} {b t : Nat} (x1 x5 x6 x7 : Int32) {σ : ST} (hb : BT b t) (h : ¬ σ.1 b 7 = 0) (n : Nat) (x8 : Int32) : QT (f_X4_takeRecord_51 rT rF rL rO rR b t n x1 x5 x6 x7 x8 σ) (fun s => ¬ s.1 b 7 = 0) := by
  have fo : ∀ (y : Int32) (s : ST), ¬ s.1 b 7 = 0 → QT (f_X5_fieldsOf 4 y s) (fun z => ¬ z.2.1 b 7 = 0) := fun y s hs z e => by
    have k : KRA b t s z.2 := wr_X5_fieldsOf (B0 := b) (T0 := t) (s := s) (KRA.rf hb) z e
    exact k.nz hs
  have k109 : ∀ s : ST, ¬ s.1 b 7 = 0 → QT (f_X4_takeRecord_109 rT rF rL rO rR b t x5 x6 x7 s) (fun s => ¬ s.1 b 7 = 0) := fun s hs => by
    unfold f_X4_takeRecord_109
    show QT (f_X4_takeRecord_112 rT rF rL rO rR b t (99999 + 1) x5 x6 x7 0 s) _
    rw [f_X4_takeRecord_112]
    refine QT.bnd (fo _ _ hs) (fun z hz => ?_)
    exact QT.ite (fun _ => QT.ret hz) (fun _ => QT.ite (fun e => absurd e hz) (fun _ => QT.ret hz))
  cases n with
  | zero =>
    rw [f_X4_takeRecord_51]
    exact QT.none
  | succ n =>
    rw [f_X4_takeRecord_51]
    refine QT.bnd (fo _ _ h) (fun z hz => ?_)
    exact QT.ite (fun _ => k109 _ hz) (fun _ => QT.ite (fun e => absurd e hz) (fun _ => k109 _ hz))
/-- the fields of a record that the reader doesn't want -/
theorem r_flds {b t m p q : Nat} {S T : ST} {rT rF rL rO rR : FTK} {rb : FRD} {rI rS : Int32 → Int32 → Int32 → Int32 → ST → Option (Int32 × ST)} (hS : RST p q S T) (hF : cFLS b t m p q S T rF rb) {L : Nat} (hL : L ≤ 30) (xR u lev xB x5 : Int32) {w mW x : Nat} (hlev : lev.toInt = L) (hx : xR.toInt = 6 * (p : Int) + w) (hx5 : x5.toInt = 6 * (p : Int) + w) (hw : (w : Int) < (T.1 8 p).toInt) (hmW : (T.1 11 (6 * p + w)).toInt = mW) : ∀ (n M i : Nat) (x8 : Int32) (σ τ : ST), RCX b t m S T σ τ x → x8.toInt = i → i ≤ mW → QT (f_X4_takeRecord_51 rT rF rL rO rR b t n xR lev (-1) (-1) x8 σ) (fun s => QT (f_X11_readsRecord_43 rb rI rS M u (-1) lev xB x5 0 x8 τ) (ROUT b (RSK b t m L S T x σ τ) s)) := by
  have l0 := li_0
  have l1 := li_1
  have lm := li_m1
  have l8 := li_8
  intro n
  induction n with
  | zero =>
    intro M i x8 σ τ _ _ _
    rw [f_X4_takeRecord_51]
    exact QT.none
  | succ n ih =>
    intro M i x8 σ τ hC h8 hi
    cases M with
    | zero =>
      refine fun s _ => ?_
      rw [f_X11_readsRecord_43]
      exact QT.none
    | succ M =>
      obtain ⟨hPQ, _⟩ := hS.at hC.1.1 hC.1.2
      have hp6 := hPQ.1
      have e8 := hC.1.2.fl.1
      have e11 := hC.1.2.fl.2.1
      have hw' : (w : Int) < (τ.1 8 p).toInt := by rw [e8]; exact hw
      obtain ⟨_, a2, a3, _, a5⟩ := hPQ.2.2.1.1.acc hw'
      have cP := hPQ.2.2.1.1.cnt
      have m8 : mW ≤ 8 := by
        have := a3.2
        rw [e11, hmW] at this
        omega
      have hm : (σ.1 7 (6 * p + w)).toInt = mW := by rw [a2, e11]; exact hmW
      have n5 : x5.toNatClampNeg = 6 * p + w := nC (by omega)
      rw [f_X4_takeRecord_51, f_X11_readsRecord_43, a4_fieldsOf xR σ (r := 6 * p + w) (by omega) (by omega), sbnd]
      dsimp only
      rw [n5, e11]
      refine QT.sw ?_
      refine QT.grd (fun _ => ?_)
      refine QT.sw ?_
      refine QT.ile (fun hle => ?_) (fun hlt => ?_)
      · unfold f_X4_takeRecord_109
        show QT (f_X4_takeRecord_112 rT rF rL rO rR b t (99999 + 1) lev (-1) (-1) 0 σ) _
        rw [f_X4_takeRecord_112, a_fieldsOf_m1, sbnd]
        dsimp only
        refine QT.ile (fun _ => QT.ret ?_) (fun h => by omega)
        refine QT.ile (fun _ => ?_) (fun h => by omega)
        show QT (f_X11_readsRecord_217 rb rI rS (99999 + 1) u (-1) xB 0 0 τ) _
        rw [f_X11_readsRecord_217]
        exact QT.ilt (fun _ => QT.ret (.inr ⟨rfl, hC, TRE.rf, SRK.rf⟩)) (fun h => by omega)
      refine QT.ite (fun _ => ?_) (fun h => absurd hC.2.1.1.1 h)
      refine QT.sw ?_
      refine QT.ile (fun h => by omega) (fun _ => ?_)
      refine QT.bnd (q_enters _ τ) (fun τ1 hτ1 => ?_)
      show QT (f_X11_readsRecord_83 rb rI rS (f_X11_readsRecord_43 rb rI rS M) (99999 + 1) u (-1) lev xB x5 0 x8 ((8 * x5) + x8) (τ.1 0 64) 0 0 τ1) _
      rw [f_X11_readsRecord_83]
      refine QT.ilt (fun _ => ?_) (fun h => by omega)
      unfold f_X11_readsRecord_171
      refine QT.ite (fun _ => ?_) (fun h => absurd rfl h)
      have em := mlE (k := 8) (y := x5) 8 l8 (by omega) (by omega)
      have ea := il_addE (x := 8 * x5) (y := x8) (by omega) (by omega)
      have na : (8 * x5 + x8).toNatClampNeg = 8 * (6 * p + w) + i := nC (by omega)
      have e15 : τ1.1 15 = T.1 15 := (hτ1.1 15 (by omega) (by omega)).trans hC.1.2.fl.2.2.1
      rw [na, e15]
      refine QT.grd (fun _ => ?_)
      refine QT.sw ?_
      refine QT.bnd (a_step b t _ σ) (fun σ1 hσ1 => ?_)
      have hC1 := hC.st hσ1 hτ1
      rw [a4_typeOf xR x8 σ1 (r := 6 * p + w) (j := i) (by omega) h8 (by omega) (by omega), sbnd]
      dsimp only
      have k13 := (hC1.1.1.kta 13 (by omega) (by omega)).1
      rw [k13]
      obtain ⟨⟨_, _⟩, _, h3, _⟩ := (hS.1.2.2.1.1.acc hw).2.2.2.2 i (by omega)
      have hTY : TY p (T.1 8 p).toInt S T 4 (S.1 13 (8 * (6 * p + w) + i)) (T.1 15 (8 * (6 * p + w) + i)) := h3
      refine QT.bnd2 (hF _ _ lev x8 (-1) L 4 x σ1 τ1 hTY (by omega) hlev hL hC1 (-1) 0) (fun s wv hsw => ?_)
      rcases hsw with ⟨f1, f2⟩ | ⟨w1, hK⟩
      · refine QT.bnd (a_stepBack b t s) (fun s2 hs2 => ?_)
        refine (ad_51 xR lev (-1) (-1) hC.1.1.1 (by rw [hs2.2.1 7 (by omega)]; exact f1) n _).mono (fun z hz => ?_)
        exact QT.ite (fun _ => QT.ret (.inl ⟨hz, rfl⟩)) (fun h => absurd f2 h)
      · refine QT.bnd (a_stepBack b t s) (fun s2 hs2 => ?_)
        refine QT.sw ?_
        refine QT.ite (fun h => by rw [w1] at h; exact absurd h one_ne) (fun _ => ?_)
        refine QT.sw ?_
        unfold f_X11_readsRecord_198
        have hK1 : RSK b t m L S T x σ τ s wv.2 := (RSK.st hC hσ1 hτ1).trans (hK.wk (by omega))
        have hB2 : STB wv.2 (stI wv.2 0 57 (wv.2.1 0 57 - 1)) := STB.i
        have e9 := il_addE (x := x8) (y := 1) (by omega) (by omega)
        refine (ih M (i + 1) (x8 + 1) s2 _ (hK1.1.st hs2 hB2) (by omega) (by omega)).mono2 (fun z v hz => hz.imp (fun h => (hK1.trans (RSK.st hK1.1 hs2 hB2)).trans h))
theorem r_rec {b t m p q : Nat} {S T : ST} {rT rF rL rO rR : FTK} {rb : FRD} {rI rS : Int32 → Int32 → Int32 → Int32 → ST → Option (Int32 × ST)} (hS : RST p q S T) (hF : cFLS b t m p q S T rF rb) {L : Nat} (hL : L ≤ 30) (xR u lev pa pl xB : Int32) {w mW x : Nat} (hlev : lev.toInt = L) (hx : xR.toInt = 6 * (p : Int) + w) (hu : 0 ≤ u.toInt ∧ u.toInt < 800) (hu3 : (T.1 3 u.toNatClampNeg).toInt = w) (hw : (w : Int) < (T.1 8 p).toInt) (hmW : (T.1 11 (6 * p + w)).toInt = mW) (σ τ : ST) (hC : RCX b t m S T σ τ x) : QT (f_X4_takeRecord rT rF rL rO rR b t xR (-1) pa pl lev σ) (fun s => QT (f_X11_readsRecord rb rI rS u (-1) lev xB τ) (ROUT b (RSK b t m L S T x σ τ) s)) := by
  have l0 := li_0
  have lm := li_m1
  have l6 := li_6
  obtain ⟨hPQ, _⟩ := hS.at hC.1.1 hC.1.2
  have hp6 := hPQ.1
  have e53 := hPQ.2.1.1
  have e8 := hC.1.2.fl.1
  have hw' : (w : Int) < (τ.1 8 p).toInt := by rw [e8]; exact hw
  have cP := hPQ.2.2.1.1.cnt
  have e3 : τ.1 3 = T.1 3 := hC.1.2.ty.2.1
  unfold f_X4_takeRecord f_X4_takeRecord_17 f_X11_readsRecord f_X11_readsRecord_38
  refine QT.ite (fun _ => ?_) (fun h => absurd rfl h)
  rw [a_fieldsOf_m1, sbnd]
  dsimp only
  have ha : f_X4_addNode b t (-1) pa pl 0 0 σ = some (-1, σ) := by
    unfold f_X4_addNode
    exact if_pos rfl
  rw [ha, sbnd]
  dsimp only
  have hf : f_X4_findSources b t xR (-1) lev σ = some σ := by
    unfold f_X4_findSources
    show f_X4_findSources_3 b t (99999 + 1) xR (-1) lev 0 σ = _
    rw [f_X4_findSources_3, a_fieldsOf_m1, sbnd]
    dsimp only
    exact if_pos (by decide)
  rw [hf, sbnd]
  refine QT.sw ?_
  refine QT.grd (fun _ => ?_)
  refine QT.ile (fun h => by omega) (fun _ => ?_)
  refine QT.sw ?_
  rw [e3]
  have em := mlE (k := 6) (y := τ.1 0 53) 6 l6 (by omega) (by omega)
  have ea := il_addE (x := 6 * τ.1 0 53) (y := T.1 3 u.toNatClampNeg) (by omega) (by omega)
  exact r_flds hS hF hL xR u lev xB _ hlev hx (by omega) hw hmW FU FU 0 0 σ τ hC l0 (by omega)
