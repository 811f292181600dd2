/-! what is filled in, told as yes or no: the reference's (wip/st5/frames8.py) -/
def F27 (σ : ST) : Prop := ∀ i, σ.1 27 i = 0 ∨ σ.1 27 i = 1
def K27 (s σ : ST) : Prop := F27 s → F27 σ
theorem K27.rf {s : ST} : K27 s s := id
theorem K27.i {s σ : ST} {c i : Nat} {v : Int32} (hc : c ≠ 27 ∨ v = 0 ∨ v = 1) (h : K27 s σ) : K27 s (stI σ c i v) := fun h0 j => by
  have h1 := h h0 j
  by_cases e : c = 27
  · subst e
    have hv := hc.resolve_left (fun h => h rfl)
    rw [stI_at]
    by_cases ej : j = i
    · rw [upA ej]
      exact hv
    · rw [upN ej]
      exact h1
  · rw [stI_ne (fun h => e h.symm)]
    exact h1
theorem K27.l {s σ : ST} {c i : Nat} {v : Int64} (h : K27 s σ) : K27 s (stL σ c i v) := h
theorem K27.d {s σ : ST} {c i : Nat} {v : UInt64} (h : K27 s σ) : K27 s (stD σ c i v) := h
theorem wf_X11_spelt {s : ST} {p0 p1 p2 p3 p4 p5 : Int32} {σ : ST} (h : K27 s σ) : PF st2 (K27 s) (f_X11_spelt p0 p1 p2 p3 p4 p5 σ) := by
  unfold f_X11_spelt
  intro q e
  obtain ⟨r, e1, e2⟩ := bnd_some e
  cases e2
  exact h
theorem wf_X11_rootType {s σ : ST} (h : K27 s σ) : PF st1 (K27 s) (f_X11_rootType σ) := by
  unfold f_X11_rootType
  exact PF.ret1 ((h.i (.inl (by decide))).i (.inl (by decide)))
theorem wf_X11_within {s : ST} {p0 : Int64} {p1 : Int64} {p2 : Int64} {σ : ST}   (h : K27 s σ) : PF st1 (K27 s) (f_X11_within p0 p1 p2 σ) := by
  unfold f_X11_within
  exact (PF.ite (fun _ => (PF.ret1 h)) (fun _ => (PF.ite (fun _ => (PF.ret1 h)) (fun _ => (PF.ret1 h)))))
theorem wf_X11_byteAt {s : ST} {p0 : Int32} {σ : ST}   (h : K27 s σ) : PF st1 (K27 s) (f_X11_byteAt p0 σ) := by
  unfold f_X11_byteAt
  exact (PF.ite (fun _ => (PF.ret1 h)) (fun _ => (PF.ite (fun _ => (PF.ret1 h)) (fun _ => PF.none))))
theorem wf_X11_go_26 {s : ST} {k0 : ST → Option (ST)} {σ : ST} (h_k0 : ∀ (σ : ST), K27 s σ → PF st0 (K27 s) (k0 σ))  (h : K27 s σ) : PF st0 (K27 s) (f_X11_go_26 k0 σ) := by
  unfold f_X11_go_26
  exact (h_k0 _ (K27.i (by first | exact .inl (by decide) | exact .inr (.inl (by decide)) | exact .inr (.inr (by decide))) h))
theorem wf_X11_isLetter {s : ST} {p0 : Int32} {σ : ST}   (h : K27 s σ) : PF st1 (K27 s) (f_X11_isLetter p0 σ) := by
  unfold f_X11_isLetter
  exact (PF.bnd (wf_X11_within  h) (fun q1 hq1 => (PF.ite (fun _ => (PF.ret1 hq1)) (fun _ => PF.none))))
theorem wf_X11_isDigit {s : ST} {p0 : Int32} {σ : ST}   (h : K27 s σ) : PF st1 (K27 s) (f_X11_isDigit p0 σ) := by
  unfold f_X11_isDigit
  exact (PF.bnd (wf_X11_within  h) (fun q1 hq1 => (PF.ite (fun _ => (PF.ret1 hq1)) (fun _ => PF.none))))
theorem wf_X11_word_62 {s : ST} {k10 : Int32 → ST → Option (ST)} {x1 : Int32} {y0 : Int64} {σ : ST} (h_k10 : ∀ (x1 : Int32) (σ : ST), K27 s σ → PF st0 (K27 s) (k10 x1 σ))  (h : K27 s σ) : PF st0 (K27 s) (f_X11_word_62 k10 x1 y0 σ) := by
  unfold f_X11_word_62
  exact (PF.bnd (PF.ret0 (K27.i (by first | exact .inl (by decide) | exact .inr (.inl (by decide)) | exact .inr (.inr (by decide))) (K27.i (by first | exact .inl (by decide) | exact .inr (.inl (by decide)) | exact .inr (.inr (by decide))) (K27.l h)))) (fun z1 hz1 => (h_k10 _ _ hz1)))
theorem wf_X11_word_10 {s : ST}    : ∀ (n : Nat) (x1 : Int32) (σ : ST), K27 s σ → PF st0 (K27 s) (f_X11_word_10  n x1 σ) := by
  intro n
  induction n with
  | zero => intro x1 σ h; rw [f_X11_word_10]; exact PF.none
  | succ n ih =>
    intro x1 σ h
    rw [f_X11_word_10]
    exact (PF.bnd (wf_X11_byteAt  h) (fun q1 hq1 => (PF.bnd (wf_X11_isLetter  hq1) (fun q3 hq3 => (PF.ite (fun _ => (PF.ret0 hq3)) (fun _ => (PF.ite (fun _ => (wf_X11_word_62 ih hq3)) (fun _ => (PF.bnd (wf_X11_byteAt  hq3) (fun q5 hq5 => (wf_X11_word_62 ih hq5)))))))))))
theorem wf_X11_word {s : ST} {p0 : Int32} {σ : ST}   (h : K27 s σ) : PF st0 (K27 s) (f_X11_word p0 σ) := by
  unfold f_X11_word
  exact (wf_X11_word_10  _ _ _ (K27.i (by first | exact .inl (by decide) | exact .inr (.inl (by decide)) | exact .inr (.inr (by decide))) (K27.l h)))
theorem wf_X11_quoted_64 {s : ST} {y0 : Int32} {σ : ST}   (h : K27 s σ) : PF st0 (K27 s) (f_X11_quoted_64 y0 σ) := by
  unfold f_X11_quoted_64
  exact (PF.ret0 (K27.i (by first | exact .inl (by decide) | exact .inr (.inl (by decide)) | exact .inr (.inr (by decide))) h))
theorem wf_X11_quoted_43 {s : ST} {y0 : Int32} {σ : ST}   (h : K27 s σ) : PF st0 (K27 s) (f_X11_quoted_43 y0 σ) := by
  unfold f_X11_quoted_43
  exact (PF.ite (fun _ => (wf_X11_quoted_64  (K27.i (by first | exact .inl (by decide) | exact .inr (.inl (by decide)) | exact .inr (.inr (by decide))) h))) (fun _ => (wf_X11_quoted_64  (K27.i (by first | exact .inl (by decide) | exact .inr (.inl (by decide)) | exact .inr (.inr (by decide))) h))))
theorem wf_X11_quoted_42 {s : ST}  {σ : ST}   (h : K27 s σ) : PF st0 (K27 s) (f_X11_quoted_42 σ) := by
  unfold f_X11_quoted_42
  exact (wf_X11_quoted_43  h)
theorem wf_X11_quoted {s : ST}  {σ : ST}   (h : K27 s σ) : PF st0 (K27 s) (f_X11_quoted σ) := by
  unfold f_X11_quoted
  exact (PF.bnd (wf_X11_word  (K27.i (by first | exact .inl (by decide) | exact .inr (.inl (by decide)) | exact .inr (.inr (by decide))) h)) (fun q1 hq1 => (PF.ite (fun _ => (wf_X11_quoted_42  hq1)) (fun _ => (PF.bnd (wf_X11_byteAt  hq1) (fun q3 hq3 => (PF.ite (fun _ => (wf_X11_quoted_43  hq3)) (fun _ => (wf_X11_quoted_42  hq3)))))))))
theorem wf_X11_isSign_36 {s : ST}  {σ : ST}   (h : K27 s σ) : PF st1 (K27 s) (f_X11_isSign_36 σ) := by
  unfold f_X11_isSign_36
  exact (PF.ret1 h)
theorem wf_X11_isSign {s : ST} {p0 : Int32} {σ : ST}   (h : K27 s σ) : PF st1 (K27 s) (f_X11_isSign p0 σ) := by
  unfold f_X11_isSign
  exact (PF.ite (fun _ => (wf_X11_isSign_36  h)) (fun _ => (PF.ite (fun _ => (wf_X11_isSign_36  h)) (fun _ => (PF.ite (fun _ => (wf_X11_isSign_36  h)) (fun _ => (PF.ite (fun _ => (wf_X11_isSign_36  h)) (fun _ => (PF.ite (fun _ => (wf_X11_isSign_36  h)) (fun _ => (PF.ite (fun _ => (wf_X11_isSign_36  h)) (fun _ => (PF.ret1 h)))))))))))))
theorem wf_X11_go_185 {s : ST} {y0 : Int32} {σ : ST}   (h : K27 s σ) : PF st0 (K27 s) (f_X11_go_185 y0 σ) := by
  unfold f_X11_go_185
  exact (PF.ret0 (K27.i (by first | exact .inl (by decide) | exact .inr (.inl (by decide)) | exact .inr (.inr (by decide))) (K27.i (by first | exact .inl (by decide) | exact .inr (.inl (by decide)) | exact .inr (.inr (by decide))) h)))
theorem wf_X11_go_169 {s : ST} {y0 : Int32} {σ : ST}   (h : K27 s σ) : PF st0 (K27 s) (f_X11_go_169 y0 σ) := by
  unfold f_X11_go_169
  exact (PF.ite (fun _ => (wf_X11_go_185  (K27.i (by first | exact .inl (by decide) | exact .inr (.inl (by decide)) | exact .inr (.inr (by decide))) h))) (fun _ => (wf_X11_go_185  (K27.i (by first | exact .inl (by decide) | exact .inr (.inl (by decide)) | exact .inr (.inr (by decide))) h))))
theorem wf_X11_go_143 {s : ST} {x1 : Int32} {σ : ST}   (h : K27 s σ) : PF st0 (K27 s) (f_X11_go_143 x1 σ) := by
  unfold f_X11_go_143
  exact (PF.ite (fun _ => (PF.bnd (wf_X11_quoted  h) (fun q3 hq3 => (PF.ret0 hq3)))) (fun _ => (PF.bnd (wf_X11_isSign  h) (fun q1 hq1 => (PF.ite (fun _ => (wf_X11_go_169  hq1)) (fun _ => (wf_X11_go_169  hq1)))))))
theorem wf_X11_number_292 {s : ST} {y0 : Int32} {σ : ST}   (h : K27 s σ) : PF st0 (K27 s) (f_X11_number_292 y0 σ) := by
  unfold f_X11_number_292
  exact (PF.ret0 (K27.i (by first | exact .inl (by decide) | exact .inr (.inl (by decide)) | exact .inr (.inr (by decide))) h))
theorem wf_X11_number_279 {s : ST} {x3 : Int32} {y0 : Int64} {σ : ST}   (h : K27 s σ) : PF st0 (K27 s) (f_X11_number_279 x3 y0 σ) := by
  unfold f_X11_number_279
  exact (PF.ite (fun _ => (wf_X11_number_292  (K27.l h))) (fun _ => (wf_X11_number_292  (K27.l h))))
theorem wf_X11_number_262 {s : ST} {x1 : Int32} {x3 : Int32} {σ : ST}   (h : K27 s σ) : PF st0 (K27 s) (f_X11_number_262 x1 x3 σ) := by
  unfold f_X11_number_262
  exact (PF.ite (fun _ => (wf_X11_number_279  h)) (fun _ => (wf_X11_number_279  h)))
theorem wf_X11_number_261 {s : ST} {x1 : Int32} {y0 : Int32} {σ : ST}   (h : K27 s σ) : PF st0 (K27 s) (f_X11_number_261 x1 y0 σ) := by
  unfold f_X11_number_261
  exact (wf_X11_number_262  h)
theorem wf_X11_number_260 {s : ST} {x1 : Int32} {σ : ST}   (h : K27 s σ) : PF st0 (K27 s) (f_X11_number_260 x1 σ) := by
  unfold f_X11_number_260
  exact (wf_X11_number_261  h)
theorem wf_X11_number_225 {s : ST} {x1 : Int32} {x3 : Int32} {y0 : UInt64} {σ : ST}   (h : K27 s σ) : PF st0 (K27 s) (f_X11_number_225 x1 x3 y0 σ) := by
  unfold f_X11_number_225
  exact (PF.ite (fun _ => (wf_X11_number_260  (K27.i (by first | exact .inl (by decide) | exact .inr (.inl (by decide)) | exact .inr (.inr (by decide))) (K27.d h)))) (fun _ => (PF.bnd (wf_X11_byteAt  (K27.i (by first | exact .inl (by decide) | exact .inr (.inl (by decide)) | exact .inr (.inr (by decide))) (K27.d h))) (fun q1 hq1 => (PF.bnd (wf_X11_isDigit  hq1) (fun q3 hq3 => (PF.ite (fun _ => (wf_X11_number_261  hq3)) (fun _ => (wf_X11_number_260  hq3)))))))))
theorem wf_X11_number_170 {s : ST} {x1 : Int32} {x3 : Int32} {y0 : Int32} {σ : ST}   (h : K27 s σ) : PF st0 (K27 s) (f_X11_number_170 x1 x3 y0 σ) := by
  unfold f_X11_number_170
  exact (PF.ite (fun _ => (PF.ite (fun _ => (wf_X11_number_262  (K27.i (by first | exact .inl (by decide) | exact .inr (.inl (by decide)) | exact .inr (.inr (by decide))) h))) (fun _ => (PF.bnd (wf_X11_byteAt  (K27.i (by first | exact .inl (by decide) | exact .inr (.inl (by decide)) | exact .inr (.inr (by decide))) h)) (fun q2 hq2 => (PF.ite (fun _ => (PF.ite (fun _ => (PF.bnd (PF.ret0 (K27.d hq2)) (fun z6 hz6 => (PF.ite (fun _ => (wf_X11_number_225  hz6)) (fun _ => (wf_X11_number_225  hz6)))))) (fun _ => PF.none))) (fun _ => PF.none))))))) (fun _ => PF.none))
theorem wf_X11_number_169 {s : ST} {x1 : Int32} {x3 : Int32} {σ : ST}   (h : K27 s σ) : PF st0 (K27 s) (f_X11_number_169 x1 x3 σ) := by
  unfold f_X11_number_169
  exact (wf_X11_number_170  h)
theorem wf_X11_number_134 {s : ST} {x1 : Int32} {y0 : Int32} {σ : ST}   (h : K27 s σ) : PF st0 (K27 s) (f_X11_number_134 x1 y0 σ) := by
  unfold f_X11_number_134
  exact (PF.bnd (wf_X11_byteAt  h) (fun q1 hq1 => (PF.ite (fun _ => (PF.bnd (wf_X11_byteAt  hq1) (fun q3 hq3 => (PF.bnd (wf_X11_isDigit  hq3) (fun q5 hq5 => (PF.ite (fun _ => (wf_X11_number_169  hq5)) (fun _ => (wf_X11_number_170  hq5)))))))) (fun _ => (wf_X11_number_169  hq1)))))
theorem wf_X11_number_102 {s : ST} {k47 : Int32 → Int32 → ST → Option (ST)} {x1 : Int32} {x2 : Int32} {y0 : Int64} {σ : ST} (h_k47 : ∀ (x1 : Int32) (x2 : Int32) (σ : ST), K27 s σ → PF st0 (K27 s) (k47 x1 x2 σ))  (h : K27 s σ) : PF st0 (K27 s) (f_X11_number_102 k47 x1 x2 y0 σ) := by
  unfold f_X11_number_102
  exact (h_k47 _ _ _ (K27.i (by first | exact .inl (by decide) | exact .inr (.inl (by decide)) | exact .inr (.inr (by decide))) (K27.l h)))
theorem wf_X11_number_47 {s : ST}    : ∀ (n : Nat) (x1 : Int32) (x2 : Int32) (σ : ST), K27 s σ → PF st0 (K27 s) (f_X11_number_47  n x1 x2 σ) := by
  intro n
  induction n with
  | zero => intro x1 x2 σ h; rw [f_X11_number_47]; exact PF.none
  | succ n ih =>
    intro x1 x2 σ h
    rw [f_X11_number_47]
    exact (PF.bnd (wf_X11_byteAt  h) (fun q1 hq1 => (PF.bnd (wf_X11_isDigit  hq1) (fun q3 hq3 => (PF.ite (fun _ => (PF.ite (fun _ => (wf_X11_number_134  hq3)) (fun _ => (wf_X11_number_134  hq3)))) (fun _ => (PF.ite (fun _ => (wf_X11_number_102 ih hq3)) (fun _ => (PF.bnd (wf_X11_byteAt  hq3) (fun q5 hq5 => (wf_X11_number_102 ih hq5)))))))))))
theorem wf_X11_number_33 {s : ST} {x1 : Int32} {y0 : Int32} {y1 : Int32} {σ : ST}   (h : K27 s σ) : PF st0 (K27 s) (f_X11_number_33 x1 y0 y1 σ) := by
  unfold f_X11_number_33
  exact (wf_X11_number_47  _ _ _ _ (K27.l (K27.i (by first | exact .inl (by decide) | exact .inr (.inl (by decide)) | exact .inr (.inr (by decide))) h)))
theorem wf_X11_number_18 {s : ST} {y0 : Int32} {σ : ST}   (h : K27 s σ) : PF st0 (K27 s) (f_X11_number_18 y0 σ) := by
  unfold f_X11_number_18
  exact (PF.ite (fun _ => (wf_X11_number_33  h)) (fun _ => (wf_X11_number_33  h)))
theorem wf_X11_number {s : ST}  {σ : ST}   (h : K27 s σ) : PF st0 (K27 s) (f_X11_number σ) := by
  unfold f_X11_number
  exact (PF.bnd (wf_X11_byteAt  h) (fun q1 hq1 => (PF.ite (fun _ => (wf_X11_number_18  hq1)) (fun _ => (wf_X11_number_18  hq1)))))
theorem wf_X11_go_136 {s : ST}  {σ : ST}   (h : K27 s σ) : PF st0 (K27 s) (f_X11_go_136 σ) := by
  unfold f_X11_go_136
  exact (PF.bnd (wf_X11_number  h) (fun q1 hq1 => (PF.ret0 hq1)))
theorem wf_X11_go_101 {s : ST} {y0 : Int32} {σ : ST}   (h : K27 s σ) : PF st0 (K27 s) (f_X11_go_101 y0 σ) := by
  unfold f_X11_go_101
  exact (PF.ret0 (K27.i (by first | exact .inl (by decide) | exact .inr (.inl (by decide)) | exact .inr (.inr (by decide))) h))
theorem wf_X11_go_0 {s : ST}    : ∀ (n : Nat) (σ : ST), K27 s σ → PF st0 (K27 s) (f_X11_go_0  n σ) := by
  intro n
  induction n with
  | zero => intro σ h; rw [f_X11_go_0]; exact PF.none
  | succ n ih =>
    intro σ h
    rw [f_X11_go_0]
    exact (PF.bnd (wf_X11_byteAt  h) (fun q1 hq1 => (PF.ite (fun _ => (wf_X11_go_26 ih hq1)) (fun _ => (PF.bnd (wf_X11_byteAt  hq1) (fun q3 hq3 => (PF.ite (fun _ => (wf_X11_go_26 ih hq3)) (fun _ => (PF.bnd (wf_X11_byteAt  (K27.i (by first | exact .inl (by decide) | exact .inr (.inl (by decide)) | exact .inr (.inr (by decide))) hq3)) (fun q5 hq5 => (PF.ite (fun _ => (PF.bnd (wf_X11_isLetter  (K27.i (by first | exact .inl (by decide) | exact .inr (.inl (by decide)) | exact .inr (.inr (by decide))) hq5)) (fun q7 hq7 => (PF.ite (fun _ => (PF.bnd (wf_X11_isDigit  hq7) (fun q9 hq9 => (PF.ite (fun _ => (PF.ite (fun _ => (PF.bnd (wf_X11_byteAt  hq9) (fun q11 hq11 => (PF.bnd (wf_X11_isDigit  hq11) (fun q13 hq13 => (PF.ite (fun _ => (wf_X11_go_143  hq13)) (fun _ => (wf_X11_go_136  hq13)))))))) (fun _ => (wf_X11_go_143  hq9)))) (fun _ => (wf_X11_go_136  hq9)))))) (fun _ => (PF.bnd (wf_X11_word  hq7) (fun q15 hq15 => (PF.ite (fun _ => (wf_X11_go_101  hq15)) (fun _ => (wf_X11_go_101  hq15)))))))))) (fun _ => (PF.ret0 (K27.i (by first | exact .inl (by decide) | exact .inr (.inl (by decide)) | exact .inr (.inr (by decide))) (K27.i (by first | exact .inl (by decide) | exact .inr (.inl (by decide)) | exact .inr (.inr (by decide))) hq5)))))))))))))))
theorem wf_X11_go {s : ST}  {σ : ST}   (h : K27 s σ) : PF st0 (K27 s) (f_X11_go σ) := by
  unfold f_X11_go
  exact (wf_X11_go_0  _ _ h)
theorem wf_X11_begins {s : ST} {p0 : Int32} {σ : ST}   (h : K27 s σ) : PF st0 (K27 s) (f_X11_begins p0 σ) := by
  unfold f_X11_begins
  exact (PF.bnd (wf_X11_go  (K27.i (by first | exact .inl (by decide) | exact .inr (.inl (by decide)) | exact .inr (.inr (by decide))) (K27.i (by first | exact .inl (by decide) | exact .inr (.inl (by decide)) | exact .inr (.inr (by decide))) (K27.i (by first | exact .inl (by decide) | exact .inr (.inl (by decide)) | exact .inr (.inr (by decide))) (K27.i (by first | exact .inl (by decide) | exact .inr (.inl (by decide)) | exact .inr (.inr (by decide))) h))))) (fun q1 hq1 => (PF.ret0 hq1)))
theorem wf_X11_isWord {s : ST} {p0 : Int64} {σ : ST}   (h : K27 s σ) : PF st1 (K27 s) (f_X11_isWord p0 σ) := by
  unfold f_X11_isWord
  exact (PF.ite (fun _ => (PF.ite (fun _ => (PF.ret1 h)) (fun _ => (PF.ret1 h)))) (fun _ => (PF.ret1 h)))
theorem wf_X11_isPlan {s : ST}  {σ : ST}   (h : K27 s σ) : PF st2 (K27 s) (f_X11_isPlan σ) := by
  unfold f_X11_isPlan
  exact (PF.bnd (wf_X11_spelt h) (fun q1 hq1 => (PF.ac (PF.bnd (wf_X11_isWord  hq1) (fun q3 hq3 => (PF.ite (fun _ => (PF.ret2 hq3)) (fun _ => PF.none)))))))
theorem wf_X11_wrong_21 {s : ST} {y0 : Int32} {σ : ST}   (h : K27 s σ) : PF st1 (K27 s) (f_X11_wrong_21 y0 σ) := by
  unfold f_X11_wrong_21
  exact (PF.ret1 (K27.i (by first | exact .inl (by decide) | exact .inr (.inl (by decide)) | exact .inr (.inr (by decide))) h))
theorem wf_X11_wrong {s : ST} {p0 : Int32} {p1 : Int32} {σ : ST}   (h : K27 s σ) : PF st1 (K27 s) (f_X11_wrong p0 p1 σ) := by
  unfold f_X11_wrong
  exact (PF.ite (fun _ => (wf_X11_wrong_21  h)) (fun _ => (wf_X11_wrong_21  h)))
theorem wf_X11_wrongHere {s : ST} {p0 : Int32} {σ : ST}   (h : K27 s σ) : PF st1 (K27 s) (f_X11_wrongHere p0 σ) := by
  unfold f_X11_wrongHere
  exact (PF.bnd (wf_X11_wrong  h) (fun q1 hq1 => (PF.ite (fun _ => (PF.ret1 hq1)) (fun _ => PF.none))))
theorem wf_X11_mark {s : ST} {p0 : Int32} {σ : ST}   (h : K27 s σ) : PF st1 (K27 s) (f_X11_mark p0 σ) := by
  unfold f_X11_mark
  exact (PF.ite (fun _ => (PF.bnd (wf_X11_go  h) (fun q1 hq1 => (PF.ret1 hq1)))) (fun _ => (PF.bnd (wf_X11_wrongHere  h) (fun q3 hq3 => (PF.ite (fun _ => (PF.ret1 hq3)) (fun _ => PF.none))))))
theorem wf_X11_recordOf_3 {s : ST}    : ∀ (n : Nat) (x1 : Int32) (x2 : Int64) (x3 : Int32) (σ : ST), K27 s σ → PF st1 (K27 s) (f_X11_recordOf_3  n x1 x2 x3 σ) := by
  intro n
  induction n with
  | zero => intro x1 x2 x3 σ h; rw [f_X11_recordOf_3]; exact PF.none
  | succ n ih =>
    intro x1 x2 x3 σ h
    rw [f_X11_recordOf_3]
    exact (PF.ite (fun _ => (PF.ite (fun _ => (PF.ret1 h)) (fun _ => (PF.ite (fun _ => (PF.ite (fun _ => (PF.ret1 h)) (fun _ => (ih _ _ _ _ h)))) (fun _ => PF.none))))) (fun _ => PF.none))
theorem wf_X11_recordOf {s : ST} {p0 : Int32} {p1 : Int64} {σ : ST}   (h : K27 s σ) : PF st1 (K27 s) (f_X11_recordOf p0 p1 σ) := by
  unfold f_X11_recordOf
  exact (wf_X11_recordOf_3  _ _ _ _ _ h)
theorem wf_X11_ends_59 {s : ST} {k2 : Int32 → Int32 → ST → Option (Int32 × ST)} {x1 : Int32} {x3 : Int32} {σ : ST} (h_k2 : ∀ (x1 : Int32) (x2 : Int32) (σ : ST), K27 s σ → PF st1 (K27 s) (k2 x1 x2 σ))  (h : K27 s σ) : PF st1 (K27 s) (f_X11_ends_59 k2 x1 x3 σ) := by
  unfold f_X11_ends_59
  exact (h_k2 _ _ _ h)
theorem wf_X11_ends_2 {s : ST}    : ∀ (n : Nat) (x1 : Int32) (x2 : Int32) (σ : ST), K27 s σ → PF st1 (K27 s) (f_X11_ends_2  n x1 x2 σ) := by
  intro n
  induction n with
  | zero => intro x1 x2 σ h; rw [f_X11_ends_2]; exact PF.none
  | succ n ih =>
    intro x1 x2 σ h
    rw [f_X11_ends_2]
    exact (PF.ite (fun _ => (PF.ret1 h)) (fun _ => (PF.ite (fun _ => (PF.ite (fun _ => (PF.bnd (wf_X11_recordOf  h) (fun q2 hq2 => (PF.ite (fun _ => (wf_X11_ends_59 ih (K27.i (by first | exact .inl (by decide) | exact .inr (.inl (by decide)) | exact .inr (.inr (by decide))) hq2))) (fun _ => (PF.bnd (wf_X11_wrong  (K27.i (by first | exact .inl (by decide) | exact .inr (.inl (by decide)) | exact .inr (.inr (by decide))) hq2)) (fun q4 hq4 => (PF.ite (fun _ => (PF.ret1 hq4)) (fun _ => PF.none))))))))) (fun _ => (wf_X11_ends_59 ih h)))) (fun _ => PF.none))))
theorem wf_X11_ends {s : ST} {p0 : Int32} {p1 : Int32} {σ : ST}   (h : K27 s σ) : PF st1 (K27 s) (f_X11_ends p0 p1 σ) := by
  unfold f_X11_ends
  exact (wf_X11_ends_2  _ _ _ _ h)
theorem wf_X11_plan_119 {s : ST} {x1 : Int32} {x2 : Int32} {x3 : Int32} {σ : ST}   (h : K27 s σ) : PF st2 (K27 s) (f_X11_plan_119 x1 x2 x3 σ) := by
  unfold f_X11_plan_119
  exact (PF.ite (fun _ => (PF.ret2 (K27.i (by first | exact .inl (by decide) | exact .inr (.inl (by decide)) | exact .inr (.inr (by decide))) h))) (fun _ => (PF.bnd (wf_X11_ends  (K27.i (by first | exact .inl (by decide) | exact .inr (.inl (by decide)) | exact .inr (.inr (by decide))) h)) (fun q1 hq1 => (PF.ite (fun _ => (PF.ret2 hq1)) (fun _ => (PF.ret2 hq1)))))))
theorem wf_X11_plan_95 {s : ST} {x1 : Int32} {x2 : Int32} {x3 : Int32} {σ : ST}   (h : K27 s σ) : PF st2 (K27 s) (f_X11_plan_95 x1 x2 x3 σ) := by
  unfold f_X11_plan_95
  exact (PF.ite (fun _ => (wf_X11_plan_119  h)) (fun _ => (PF.ite (fun _ => (wf_X11_plan_119  h)) (fun _ => (PF.bnd (wf_X11_isPlan  h) (fun q1 hq1 => (PF.ac (PF.ite (fun _ => (PF.bnd (wf_X11_wrongHere  hq1) (fun q3 hq3 => (wf_X11_plan_119  hq3)))) (fun _ => (wf_X11_plan_119  hq1))))))))))
theorem wf_X11_isRecord {s : ST}  {σ : ST}   (h : K27 s σ) : PF st2 (K27 s) (f_X11_isRecord σ) := by
  unfold f_X11_isRecord
  exact (PF.bnd (wf_X11_spelt h) (fun q1 hq1 => (PF.ac (PF.bnd (wf_X11_isWord  hq1) (fun q3 hq3 => (PF.ite (fun _ => (PF.ret2 hq3)) (fun _ => PF.none)))))))
theorem wf_X11_sortHere {s : ST}  {σ : ST}   (h : K27 s σ) : PF st2 (K27 s) (f_X11_sortHere σ) := by
  unfold f_X11_sortHere
  exact (PF.bnd (wf_X11_spelt h) (fun q1 hq1 => (PF.ac (PF.bnd (wf_X11_isWord  hq1) (fun q3 hq3 => (PF.ite (fun _ => (PF.bnd (wf_X11_spelt hq3) (fun q5 hq5 => (PF.ac (PF.bnd (wf_X11_isWord  hq5) (fun q7 hq7 => (PF.ite (fun _ => (PF.bnd (wf_X11_spelt hq7) (fun q9 hq9 => (PF.ac (PF.bnd (wf_X11_isWord  hq9) (fun q11 hq11 => (PF.ite (fun _ => (PF.bnd (wf_X11_spelt hq11) (fun q13 hq13 => (PF.ac (PF.bnd (wf_X11_isWord  hq13) (fun q15 hq15 => (PF.ite (fun _ => (PF.bnd (wf_X11_spelt hq15) (fun q17 hq17 => (PF.ac (PF.bnd (wf_X11_isWord  hq17) (fun q19 hq19 => (PF.ite (fun _ => (PF.bnd (wf_X11_spelt hq19) (fun q21 hq21 => (PF.ac (PF.bnd (wf_X11_isWord  hq21) (fun q23 hq23 => (PF.ite (fun _ => (PF.bnd (wf_X11_spelt hq23) (fun q25 hq25 => (PF.ac (PF.bnd (wf_X11_isWord  hq25) (fun q27 hq27 => (PF.ite (fun _ => (PF.bnd (wf_X11_spelt hq27) (fun q29 hq29 => (PF.ac (PF.bnd (wf_X11_isWord  hq29) (fun q31 hq31 => (PF.ite (fun _ => (PF.ret2 hq31)) (fun _ => (PF.ret2 hq31))))))))) (fun _ => (PF.ret2 hq27))))))))) (fun _ => (PF.ret2 hq23))))))))) (fun _ => (PF.ret2 hq19))))))))) (fun _ => (PF.ret2 hq15))))))))) (fun _ => (PF.ret2 hq11))))))))) (fun _ => (PF.ret2 hq7))))))))) (fun _ => (PF.ret2 hq3))))))))
theorem wf_X11_isName_61 {s : ST} {y0 : Int32} {σ : ST}   (h : K27 s σ) : PF st2 (K27 s) (f_X11_isName_61 y0 σ) := by
  unfold f_X11_isName_61
  exact (PF.ite (fun _ => (PF.ite (fun _ => (PF.ret2 h)) (fun _ => (PF.ret2 h)))) (fun _ => (PF.ret2 h)))
theorem wf_X11_isName_56 {s : ST}  {σ : ST}   (h : K27 s σ) : PF st2 (K27 s) (f_X11_isName_56 σ) := by
  unfold f_X11_isName_56
  exact (wf_X11_isName_61  h)
theorem wf_X11_isWas {s : ST}  {σ : ST}   (h : K27 s σ) : PF st2 (K27 s) (f_X11_isWas σ) := by
  unfold f_X11_isWas
  exact (PF.bnd (wf_X11_spelt h) (fun q1 hq1 => (PF.ac (PF.bnd (wf_X11_isWord  hq1) (fun q3 hq3 => (PF.ite (fun _ => (PF.ret2 hq3)) (fun _ => PF.none)))))))
theorem wf_X11_isElse {s : ST}  {σ : ST}   (h : K27 s σ) : PF st2 (K27 s) (f_X11_isElse σ) := by
  unfold f_X11_isElse
  exact (PF.bnd (wf_X11_spelt h) (fun q1 hq1 => (PF.ac (PF.bnd (wf_X11_isWord  hq1) (fun q3 hq3 => (PF.ite (fun _ => (PF.ret2 hq3)) (fun _ => PF.none)))))))
theorem wf_X11_isOr {s : ST}  {σ : ST}   (h : K27 s σ) : PF st2 (K27 s) (f_X11_isOr σ) := by
  unfold f_X11_isOr
  exact (PF.bnd (wf_X11_spelt h) (fun q1 hq1 => (PF.ac (PF.bnd (wf_X11_isWord  hq1) (fun q3 hq3 => (PF.ite (fun _ => (PF.ret2 hq3)) (fun _ => PF.none)))))))
theorem wf_X11_isYes {s : ST}  {σ : ST}   (h : K27 s σ) : PF st2 (K27 s) (f_X11_isYes σ) := by
  unfold f_X11_isYes
  exact (PF.bnd (wf_X11_spelt h) (fun q1 hq1 => (PF.ac (PF.bnd (wf_X11_isWord  hq1) (fun q3 hq3 => (PF.ite (fun _ => (PF.ret2 hq3)) (fun _ => PF.none)))))))
theorem wf_X11_isNo {s : ST}  {σ : ST}   (h : K27 s σ) : PF st2 (K27 s) (f_X11_isNo σ) := by
  unfold f_X11_isNo
  exact (PF.bnd (wf_X11_spelt h) (fun q1 hq1 => (PF.ac (PF.bnd (wf_X11_isWord  hq1) (fun q3 hq3 => (PF.ite (fun _ => (PF.ret2 hq3)) (fun _ => PF.none)))))))
theorem wf_X11_isName {s : ST}  {σ : ST}   (h : K27 s σ) : PF st2 (K27 s) (f_X11_isName σ) := by
  unfold f_X11_isName
  exact (PF.bnd (wf_X11_sortHere  h) (fun q1 hq1 => (PF.ac (PF.ite (fun _ => (wf_X11_isName_56  hq1)) (fun _ => (PF.bnd (wf_X11_isPlan  hq1) (fun q3 hq3 => (PF.ac (PF.ite (fun _ => (PF.bnd (wf_X11_isRecord  hq3) (fun q5 hq5 => (PF.ac (PF.ite (fun _ => (PF.bnd (wf_X11_isWas  hq5) (fun q7 hq7 => (PF.ac (PF.ite (fun _ => (PF.bnd (wf_X11_isElse  hq7) (fun q9 hq9 => (PF.ac (PF.ite (fun _ => (PF.bnd (wf_X11_isOr  hq9) (fun q11 hq11 => (PF.ac (PF.ite (fun _ => (PF.bnd (wf_X11_isYes  hq11) (fun q13 hq13 => (PF.ac (PF.ite (fun _ => (PF.bnd (wf_X11_isNo  hq13) (fun q15 hq15 => (PF.ac (PF.ite (fun _ => (wf_X11_isName_61  hq15)) (fun _ => (wf_X11_isName_56  hq15))))))) (fun _ => (wf_X11_isName_56  hq13))))))) (fun _ => (wf_X11_isName_56  hq11))))))) (fun _ => (wf_X11_isName_56  hq9))))))) (fun _ => (wf_X11_isName_56  hq7))))))) (fun _ => (wf_X11_isName_56  hq5))))))) (fun _ => (wf_X11_isName_56  hq3)))))))))))
theorem wf_X11_fieldOf_3 {s : ST}    : ∀ (n : Nat) (x1 : Int32) (x2 : Int64) (x3 : Int32) (σ : ST), K27 s σ → PF st1 (K27 s) (f_X11_fieldOf_3  n x1 x2 x3 σ) := by
  intro n
  induction n with
  | zero => intro x1 x2 x3 σ h; rw [f_X11_fieldOf_3]; exact PF.none
  | succ n ih =>
    intro x1 x2 x3 σ h
    rw [f_X11_fieldOf_3]
    exact (PF.ite (fun _ => (PF.ite (fun _ => (PF.ret1 h)) (fun _ => (PF.ite (fun _ => (PF.ite (fun _ => (PF.ret1 h)) (fun _ => (ih _ _ _ _ h)))) (fun _ => PF.none))))) (fun _ => PF.none))
theorem wf_X11_fieldOf {s : ST} {p0 : Int32} {p1 : Int64} {σ : ST}   (h : K27 s σ) : PF st1 (K27 s) (f_X11_fieldOf p0 p1 σ) := by
  unfold f_X11_fieldOf
  exact (wf_X11_fieldOf_3  _ _ _ _ _ h)
theorem wf_X11_branches_73 {s : ST} {r_X11_branches : Int32 → Int32 → ST → Option ((Int32 × ST) × Nat)} {r_X11_type : Int32 → Int32 → ST → Option ((Int32 × ST) × Nat)} {k2 : Int32 → Int32 → Int32 → ST → Option ((Int32 × ST) × Nat)} {x1 : Int32} {x2 : Int32} {σ : ST} (h_r_X11_branches : ∀ (x1 : Int32) (x2 : Int32) (σ : ST), K27 s σ → PF st2 (K27 s) (r_X11_branches x1 x2 σ)) (h_r_X11_type : ∀ (x1 : Int32) (x2 : Int32) (σ : ST), K27 s σ → PF st2 (K27 s) (r_X11_type x1 x2 σ)) (h_k2 : ∀ (x1 : Int32) (x2 : Int32) (x3 : Int32) (σ : ST), K27 s σ → PF st2 (K27 s) (k2 x1 x2 x3 σ))  (h : K27 s σ) : PF st2 (K27 s) (f_X11_branches_73 r_X11_branches r_X11_type k2 x1 x2 σ) := by
  unfold f_X11_branches_73
  exact (PF.bnd (wf_X11_isOr  h) (fun q1 hq1 => (PF.ac (PF.ite (fun _ => (h_k2 _ _ _ _ hq1)) (fun _ => (PF.bnd (wf_X11_go  hq1) (fun q3 hq3 => (h_k2 _ _ _ _ hq3))))))))
theorem wf_X11_branches_2 {s : ST} {r_X11_branches : Int32 → Int32 → ST → Option ((Int32 × ST) × Nat)} {r_X11_type : Int32 → Int32 → ST → Option ((Int32 × ST) × Nat)} (h_r_X11_branches : ∀ (x1 : Int32) (x2 : Int32) (σ : ST), K27 s σ → PF st2 (K27 s) (r_X11_branches x1 x2 σ)) (h_r_X11_type : ∀ (x1 : Int32) (x2 : Int32) (σ : ST), K27 s σ → PF st2 (K27 s) (r_X11_type x1 x2 σ))  : ∀ (n : Nat) (x1 : Int32) (x2 : Int32) (x3 : Int32) (σ : ST), K27 s σ → PF st2 (K27 s) (f_X11_branches_2 r_X11_branches r_X11_type n x1 x2 x3 σ) := by
  intro n
  induction n with
  | zero => intro x1 x2 x3 σ h; rw [f_X11_branches_2]; exact PF.none
  | succ n ih =>
    intro x1 x2 x3 σ h
    rw [f_X11_branches_2]
    exact (PF.ite (fun _ => (PF.ret2 h)) (fun _ => (PF.bnd (h_r_X11_type _ _ _ h) (fun q1 hq1 => (PF.ac (PF.ite (fun _ => (PF.ite (fun _ => (PF.ite (fun _ => (PF.bnd (PF.ret0 (K27.i (by first | exact .inl (by decide) | exact .inr (.inl (by decide)) | exact .inr (.inr (by decide))) (K27.i (by first | exact .inl (by decide) | exact .inr (.inl (by decide)) | exact .inr (.inr (by decide))) hq1))) (fun z5 hz5 => (PF.ite (fun _ => (PF.bnd (wf_X11_isOr  hz5) (fun q6 hq6 => (PF.ac (PF.ite (fun _ => (PF.bnd (wf_X11_wrongHere  hq6) (fun q8 hq8 => (PF.ite (fun _ => (PF.ret2 hq8)) (fun _ => PF.none))))) (fun _ => (wf_X11_branches_73 h_r_X11_branches h_r_X11_type ih hq6))))))) (fun _ => (wf_X11_branches_73 h_r_X11_branches h_r_X11_type ih hz5)))))) (fun _ => PF.none))) (fun _ => PF.none))) (fun _ => (PF.ret2 hq1))))))))
theorem wf_X11_branches {s : ST} {r_X11_branches : Int32 → Int32 → ST → Option ((Int32 × ST) × Nat)} {r_X11_type : Int32 → Int32 → ST → Option ((Int32 × ST) × Nat)} {p0 : Int32} {p1 : Int32} {σ : ST} (h_r_X11_branches : ∀ (x1 : Int32) (x2 : Int32) (σ : ST), K27 s σ → PF st2 (K27 s) (r_X11_branches x1 x2 σ)) (h_r_X11_type : ∀ (x1 : Int32) (x2 : Int32) (σ : ST), K27 s σ → PF st2 (K27 s) (r_X11_type x1 x2 σ))  (h : K27 s σ) : PF st2 (K27 s) (f_X11_branches r_X11_branches r_X11_type p0 p1 σ) := by
  unfold f_X11_branches
  exact (wf_X11_branches_2 h_r_X11_branches h_r_X11_type _ _ _ _ _ h)
theorem wf_X11_type_213 {s : ST} {r_X11_branches : Int32 → Int32 → ST → Option ((Int32 × ST) × Nat)} {r_X11_type : Int32 → Int32 → ST → Option ((Int32 × ST) × Nat)} {x5 : Int32} {σ : ST} (h_r_X11_branches : ∀ (x1 : Int32) (x2 : Int32) (σ : ST), K27 s σ → PF st2 (K27 s) (r_X11_branches x1 x2 σ)) (h_r_X11_type : ∀ (x1 : Int32) (x2 : Int32) (σ : ST), K27 s σ → PF st2 (K27 s) (r_X11_type x1 x2 σ))  (h : K27 s σ) : PF st2 (K27 s) (f_X11_type_213 r_X11_branches r_X11_type x5 σ) := by
  unfold f_X11_type_213
  exact (PF.ret2 h)
theorem wf_X11_type_78 {s : ST} {r_X11_branches : Int32 → Int32 → ST → Option ((Int32 × ST) × Nat)} {r_X11_type : Int32 → Int32 → ST → Option ((Int32 × ST) × Nat)} {x1 : Int32} {x3 : Int32} {x4 : Int32} {σ : ST} (h_r_X11_branches : ∀ (x1 : Int32) (x2 : Int32) (σ : ST), K27 s σ → PF st2 (K27 s) (r_X11_branches x1 x2 σ)) (h_r_X11_type : ∀ (x1 : Int32) (x2 : Int32) (σ : ST), K27 s σ → PF st2 (K27 s) (r_X11_type x1 x2 σ))  (h : K27 s σ) : PF st2 (K27 s) (f_X11_type_78 r_X11_branches r_X11_type x1 x3 x4 σ) := by
  unfold f_X11_type_78
  exact (PF.ite (fun _ => (PF.ite (fun _ => (PF.bnd (PF.ret0 (K27.i (by first | exact .inl (by decide) | exact .inr (.inl (by decide)) | exact .inr (.inr (by decide))) (K27.i (by first | exact .inl (by decide) | exact .inr (.inl (by decide)) | exact .inr (.inr (by decide))) (K27.i (by first | exact .inl (by decide) | exact .inr (.inl (by decide)) | exact .inr (.inr (by decide))) h)))) (fun z2 hz2 => (PF.bnd (PF.ret0 (K27.i (by first | exact .inl (by decide) | exact .inr (.inl (by decide)) | exact .inr (.inr (by decide))) (K27.l hz2))) (fun z3 hz3 => (PF.bnd (wf_X11_go  (K27.i (by first | exact .inl (by decide) | exact .inr (.inl (by decide)) | exact .inr (.inr (by decide))) hz3)) (fun q4 hq4 => (PF.ite (fun _ => (PF.bnd (h_r_X11_type _ _ _ hq4) (fun q8 hq8 => (PF.ac (PF.ite (fun _ => (PF.ret2 (K27.i (by first | exact .inl (by decide) | exact .inr (.inl (by decide)) | exact .inr (.inr (by decide))) hq8))) (fun _ => (PF.ret2 (K27.i (by first | exact .inl (by decide) | exact .inr (.inl (by decide)) | exact .inr (.inr (by decide))) hq8)))))))) (fun _ => (PF.ite (fun _ => (PF.bnd (h_r_X11_branches _ _ _ hq4) (fun q6 hq6 => (PF.ac (PF.ite (fun _ => (PF.ret2 hq6)) (fun _ => (wf_X11_type_213 h_r_X11_branches h_r_X11_type hq6))))))) (fun _ => (wf_X11_type_213 h_r_X11_branches h_r_X11_type hq4)))))))))))) (fun _ => PF.none))) (fun _ => (PF.bnd (wf_X11_wrongHere  h) (fun q10 hq10 => (PF.ret2 hq10)))))
theorem wf_X11_type_75 {s : ST} {r_X11_branches : Int32 → Int32 → ST → Option ((Int32 × ST) × Nat)} {r_X11_type : Int32 → Int32 → ST → Option ((Int32 × ST) × Nat)} {x1 : Int32} {x3 : Int32} {σ : ST} (h_r_X11_branches : ∀ (x1 : Int32) (x2 : Int32) (σ : ST), K27 s σ → PF st2 (K27 s) (r_X11_branches x1 x2 σ)) (h_r_X11_type : ∀ (x1 : Int32) (x2 : Int32) (σ : ST), K27 s σ → PF st2 (K27 s) (r_X11_type x1 x2 σ))  (h : K27 s σ) : PF st2 (K27 s) (f_X11_type_75 r_X11_branches r_X11_type x1 x3 σ) := by
  unfold f_X11_type_75
  exact (wf_X11_type_78 h_r_X11_branches h_r_X11_type h)
theorem wf_X11_isAsked_45 {s : ST} {k5 : Int32 → Int32 → Int32 → Int32 → ST → Option (Int32 × ST)} {x1 : Int32} {x2 : Int32} {x4 : Int32} {y0 : Int32} {σ : ST} (h_k5 : ∀ (x1 : Int32) (x2 : Int32) (x3 : Int32) (x4 : Int32) (σ : ST), K27 s σ → PF st1 (K27 s) (k5 x1 x2 x3 x4 σ))  (h : K27 s σ) : PF st1 (K27 s) (f_X11_isAsked_45 k5 x1 x2 x4 y0 σ) := by
  unfold f_X11_isAsked_45
  exact (h_k5 _ _ _ _ _ h)
theorem wf_X11_isAsked_40 {s : ST} {k5 : Int32 → Int32 → Int32 → Int32 → ST → Option (Int32 × ST)} {x1 : Int32} {x2 : Int32} {x4 : Int32} {σ : ST} (h_k5 : ∀ (x1 : Int32) (x2 : Int32) (x3 : Int32) (x4 : Int32) (σ : ST), K27 s σ → PF st1 (K27 s) (k5 x1 x2 x3 x4 σ))  (h : K27 s σ) : PF st1 (K27 s) (f_X11_isAsked_40 k5 x1 x2 x4 σ) := by
  unfold f_X11_isAsked_40
  exact (wf_X11_isAsked_45 h_k5 h)
theorem wf_X11_isAsked_5 {s : ST}    : ∀ (n : Nat) (x1 : Int32) (x2 : Int32) (x3 : Int32) (x4 : Int32) (σ : ST), K27 s σ → PF st1 (K27 s) (f_X11_isAsked_5  n x1 x2 x3 x4 σ) := by
  intro n
  induction n with
  | zero => intro x1 x2 x3 x4 σ h; rw [f_X11_isAsked_5]; exact PF.none
  | succ n ih =>
    intro x1 x2 x3 x4 σ h
    rw [f_X11_isAsked_5]
    exact (PF.ite (fun _ => (PF.ite (fun _ => (PF.ite (fun _ => (PF.ret1 h)) (fun _ => PF.none))) (fun _ => (PF.ite (fun _ => (PF.ite (fun _ => (PF.ite (fun _ => (PF.ite (fun _ => (wf_X11_isAsked_40 ih h)) (fun _ => (wf_X11_isAsked_45 ih h)))) (fun _ => PF.none))) (fun _ => PF.none))) (fun _ => (wf_X11_isAsked_40 ih h)))))) (fun _ => PF.none))
theorem wf_X11_isAsked {s : ST} {p0 : Int32} {p1 : Int32} {σ : ST}   (h : K27 s σ) : PF st1 (K27 s) (f_X11_isAsked p0 p1 σ) := by
  unfold f_X11_isAsked
  exact (wf_X11_isAsked_5  _ _ _ _ _ _ h)
theorem wf_X11_type_49 {s : ST} {r_X11_branches : Int32 → Int32 → ST → Option ((Int32 × ST) × Nat)} {r_X11_type : Int32 → Int32 → ST → Option ((Int32 × ST) × Nat)} {x1 : Int32} {x2 : Int32} {x3 : Int32} {y0 : Int32} {σ : ST} (h_r_X11_branches : ∀ (x1 : Int32) (x2 : Int32) (σ : ST), K27 s σ → PF st2 (K27 s) (r_X11_branches x1 x2 σ)) (h_r_X11_type : ∀ (x1 : Int32) (x2 : Int32) (σ : ST), K27 s σ → PF st2 (K27 s) (r_X11_type x1 x2 σ))  (h : K27 s σ) : PF st2 (K27 s) (f_X11_type_49 r_X11_branches r_X11_type x1 x2 x3 y0 σ) := by
  unfold f_X11_type_49
  exact (PF.ite (fun _ => (PF.ite (fun _ => (wf_X11_type_78 h_r_X11_branches h_r_X11_type h)) (fun _ => (PF.ite (fun _ => (wf_X11_type_75 h_r_X11_branches h_r_X11_type h)) (fun _ => (PF.bnd (wf_X11_isAsked  h) (fun q1 hq1 => (PF.ite (fun _ => (wf_X11_type_78 h_r_X11_branches h_r_X11_type hq1)) (fun _ => (wf_X11_type_75 h_r_X11_branches h_r_X11_type hq1)))))))))) (fun _ => (wf_X11_type_78 h_r_X11_branches h_r_X11_type h)))
theorem wf_X11_type_44 {s : ST} {r_X11_branches : Int32 → Int32 → ST → Option ((Int32 × ST) × Nat)} {r_X11_type : Int32 → Int32 → ST → Option ((Int32 × ST) × Nat)} {x1 : Int32} {x2 : Int32} {x3 : Int32} {σ : ST} (h_r_X11_branches : ∀ (x1 : Int32) (x2 : Int32) (σ : ST), K27 s σ → PF st2 (K27 s) (r_X11_branches x1 x2 σ)) (h_r_X11_type : ∀ (x1 : Int32) (x2 : Int32) (σ : ST), K27 s σ → PF st2 (K27 s) (r_X11_type x1 x2 σ))  (h : K27 s σ) : PF st2 (K27 s) (f_X11_type_44 r_X11_branches r_X11_type x1 x2 x3 σ) := by
  unfold f_X11_type_44
  exact (wf_X11_type_49 h_r_X11_branches h_r_X11_type h)
theorem wf_X11_type_48 {s : ST} {r_X11_branches : Int32 → Int32 → ST → Option ((Int32 × ST) × Nat)} {r_X11_type : Int32 → Int32 → ST → Option ((Int32 × ST) × Nat)} {x1 : Int32} {x2 : Int32} {x3 : Int32} {σ : ST} (h_r_X11_branches : ∀ (x1 : Int32) (x2 : Int32) (σ : ST), K27 s σ → PF st2 (K27 s) (r_X11_branches x1 x2 σ)) (h_r_X11_type : ∀ (x1 : Int32) (x2 : Int32) (σ : ST), K27 s σ → PF st2 (K27 s) (r_X11_type x1 x2 σ))  (h : K27 s σ) : PF st2 (K27 s) (f_X11_type_48 r_X11_branches r_X11_type x1 x2 x3 σ) := by
  unfold f_X11_type_48
  exact (wf_X11_type_49 h_r_X11_branches h_r_X11_type h)
theorem wf_X11_type_16 {s : ST} {r_X11_branches : Int32 → Int32 → ST → Option ((Int32 × ST) × Nat)} {r_X11_type : Int32 → Int32 → ST → Option ((Int32 × ST) × Nat)} {x1 : Int32} {x2 : Int32} {y0 : Int32} {σ : ST} (h_r_X11_branches : ∀ (x1 : Int32) (x2 : Int32) (σ : ST), K27 s σ → PF st2 (K27 s) (r_X11_branches x1 x2 σ)) (h_r_X11_type : ∀ (x1 : Int32) (x2 : Int32) (σ : ST), K27 s σ → PF st2 (K27 s) (r_X11_type x1 x2 σ))  (h : K27 s σ) : PF st2 (K27 s) (f_X11_type_16 r_X11_branches r_X11_type x1 x2 y0 σ) := by
  unfold f_X11_type_16
  exact (PF.ite (fun _ => (PF.ite (fun _ => (wf_X11_type_44 h_r_X11_branches h_r_X11_type h)) (fun _ => (PF.ite (fun _ => (wf_X11_type_48 h_r_X11_branches h_r_X11_type h)) (fun _ => (PF.ite (fun _ => (PF.ite (fun _ => (wf_X11_type_44 h_r_X11_branches h_r_X11_type h)) (fun _ => (wf_X11_type_48 h_r_X11_branches h_r_X11_type h)))) (fun _ => PF.none))))))) (fun _ => (wf_X11_type_49 h_r_X11_branches h_r_X11_type h)))
theorem wf_X11_type {s : ST} {r_X11_branches : Int32 → Int32 → ST → Option ((Int32 × ST) × Nat)} {r_X11_type : Int32 → Int32 → ST → Option ((Int32 × ST) × Nat)} {p0 : Int32} {p1 : Int32} {σ : ST} (h_r_X11_branches : ∀ (x1 : Int32) (x2 : Int32) (σ : ST), K27 s σ → PF st2 (K27 s) (r_X11_branches x1 x2 σ)) (h_r_X11_type : ∀ (x1 : Int32) (x2 : Int32) (σ : ST), K27 s σ → PF st2 (K27 s) (r_X11_type x1 x2 σ))  (h : K27 s σ) : PF st2 (K27 s) (f_X11_type r_X11_branches r_X11_type p0 p1 σ) := by
  unfold f_X11_type
  exact (PF.bnd (wf_X11_isName  h) (fun q1 hq1 => (PF.ac (PF.ite (fun _ => (PF.bnd (wf_X11_sortHere  hq1) (fun q3 hq3 => (PF.ac (wf_X11_type_16 h_r_X11_branches h_r_X11_type hq3))))) (fun _ => (wf_X11_type_16 h_r_X11_branches h_r_X11_type hq1))))))
theorem wfR_X11_branches {s : ST} : ∀ n : Nat, (∀ (p0 : Int32) (p1 : Int32) (σ : ST), K27 s σ → PF st2 (K27 s) ((R_X11_branches n).1 p0 p1 σ)) ∧ (∀ (p0 : Int32) (p1 : Int32) (σ : ST), K27 s σ → PF st2 (K27 s) ((R_X11_branches n).2 p0 p1 σ)) := by
  intro n
  induction n with
  | zero => exact ⟨fun _ _ _ _ => PF.none, fun _ _ _ _ => PF.none⟩
  | succ n ih => exact ⟨fun _ _ _ h => wf_X11_branches (ih.1) (ih.2)  h, fun _ _ _ h => wf_X11_type (ih.1) (ih.2)  h⟩
theorem wf_T_X11_type {s : ST} {p0 : Int32} {p1 : Int32} {σ : ST} (h : K27 s σ) : PF st2 (K27 s) (f_T_X11_type p0 p1 σ) := (wfR_X11_branches FRB).2 _ _ _  h
theorem wf_X11_field_190 {s : ST} {x1 : Int32} {x2 : Int32} {x3 : Int64} {σ : ST}   (h : K27 s σ) : PF st2 (K27 s) (f_X11_field_190 x1 x2 x3 σ) := by
  unfold f_X11_field_190
  exact (PF.ite (fun _ => (PF.ite (fun _ => (PF.bnd (PF.ret0 (K27.i (by first | exact .inl (by decide) | exact .inr (.inl (by decide)) | exact .inr (.inr (by decide))) (K27.l h))) (fun z3 hz3 => (PF.ret2 hz3)))) (fun _ => PF.none))) (fun _ => PF.none))
theorem wf_X11_isLiteral_46 {s : ST}  {σ : ST}   (h : K27 s σ) : PF st2 (K27 s) (f_X11_isLiteral_46 σ) := by
  unfold f_X11_isLiteral_46
  exact (PF.ret2 h)
theorem wf_X11_isLiteral {s : ST}  {σ : ST}   (h : K27 s σ) : PF st2 (K27 s) (f_X11_isLiteral σ) := by
  unfold f_X11_isLiteral
  exact (PF.bnd (wf_X11_sortHere  h) (fun q1 hq1 => (PF.ac (PF.ite (fun _ => (wf_X11_isLiteral_46  hq1)) (fun _ => (PF.bnd (wf_X11_isYes  hq1) (fun q3 hq3 => (PF.ac (PF.ite (fun _ => (PF.bnd (wf_X11_isNo  hq3) (fun q5 hq5 => (PF.ac (PF.ite (fun _ => (PF.ite (fun _ => (wf_X11_isLiteral_46  hq5)) (fun _ => (PF.ite (fun _ => (wf_X11_isLiteral_46  hq5)) (fun _ => (PF.ite (fun _ => (wf_X11_isLiteral_46  hq5)) (fun _ => (PF.ret2 hq5)))))))) (fun _ => (wf_X11_isLiteral_46  hq5))))))) (fun _ => (wf_X11_isLiteral_46  hq3)))))))))))
theorem wf_X11_firstOf {s : ST} {p0 : Int32} {σ : ST}   (h : K27 s σ) : PF st1 (K27 s) (f_X11_firstOf p0 σ) := by
  unfold f_X11_firstOf
  exact (PF.ite (fun _ => (PF.ite (fun _ => (PF.ite (fun _ => (PF.ret1 h)) (fun _ => PF.none))) (fun _ => (PF.ret1 h)))) (fun _ => PF.none))
theorem wf_X11_fits_75 {s : ST}  {σ : ST}   (h : K27 s σ) : PF st2 (K27 s) (f_X11_fits_75 σ) := by
  unfold f_X11_fits_75
  exact (PF.ret2 h)
theorem wf_X11_fits {s : ST} {p0 : Int32} {σ : ST}   (h : K27 s σ) : PF st2 (K27 s) (f_X11_fits p0 σ) := by
  unfold f_X11_fits
  exact (PF.ite (fun _ => (PF.ite (fun _ => (PF.bnd (wf_X11_sortHere  h) (fun q9 hq9 => (PF.ac (PF.ite (fun _ => (PF.ret2 hq9)) (fun _ => (PF.ret2 hq9))))))) (fun _ => (PF.ite (fun _ => (PF.bnd (wf_X11_isYes  h) (fun q11 hq11 => (PF.ac (PF.ite (fun _ => (PF.bnd (wf_X11_isNo  hq11) (fun q13 hq13 => (PF.ac (PF.ite (fun _ => (PF.ret2 hq13)) (fun _ => (wf_X11_fits_75  hq13))))))) (fun _ => (wf_X11_fits_75  hq11))))))) (fun _ => (PF.ite (fun _ => (PF.ite (fun _ => (PF.ite (fun _ => (PF.bnd (wf_X11_within  h) (fun q15 hq15 => (PF.ite (fun _ => (PF.ret2 hq15)) (fun _ => (PF.ret2 hq15)))))) (fun _ => (PF.ret2 h)))) (fun _ => (PF.ret2 h)))) (fun _ => (PF.ite (fun _ => (PF.ite (fun _ => (PF.ite (fun _ => (PF.ret2 h)) (fun _ => (PF.ret2 h)))) (fun _ => (PF.ret2 h)))) (fun _ => (PF.ite (fun _ => (PF.ite (fun _ => (PF.ret2 h)) (fun _ => (PF.ret2 h)))) (fun _ => (PF.ite (fun _ => (PF.ite (fun _ => (PF.ret2 h)) (fun _ => (PF.ret2 h)))) (fun _ => (PF.ite (fun _ => (PF.ite (fun _ => (PF.ret2 h)) (fun _ => (PF.ret2 h)))) (fun _ => (PF.ite (fun _ => (PF.ite (fun _ => (PF.ret2 h)) (fun _ => (PF.ret2 h)))) (fun _ => (PF.ret2 h)))))))))))))))))) (fun _ => PF.none))
theorem wf_Jxe99ae_isNaN_b9ae7 {s : ST} {p0 : UInt64} {σ : ST}   (h : K27 s σ) : PF st1 (K27 s) (f_Jxe99ae_isNaN_b9ae7 p0 σ) := by
  unfold f_Jxe99ae_isNaN_b9ae7
  exact (PF.ite (fun _ => (PF.ret1 h)) (fun _ => (PF.ret1 h)))
theorem wf_Jxe99ae_doubleToLongBits_ccdee {s : ST} {p0 : UInt64} {σ : ST}   (h : K27 s σ) : PF st1 (K27 s) (f_Jxe99ae_doubleToLongBits_ccdee p0 σ) := by
  unfold f_Jxe99ae_doubleToLongBits_ccdee
  exact (PF.bnd (wf_Jxe99ae_isNaN_b9ae7  h) (fun q1 hq1 => (PF.ite (fun _ => (PF.ret1 hq1)) (fun _ => (PF.ret1 hq1)))))
theorem wf_X11_bitsOf_31 {s : ST} {y0 : UInt64} {σ : ST}   (h : K27 s σ) : PF st2 (K27 s) (f_X11_bitsOf_31 y0 σ) := by
  unfold f_X11_bitsOf_31
  exact (PF.bnd (wf_Jxe99ae_doubleToLongBits_ccdee  h) (fun q1 hq1 => (PF.ret2 hq1)))
theorem wf_X11_bitsOf_65 {s : ST}  {σ : ST}   (h : K27 s σ) : PF st2 (K27 s) (f_X11_bitsOf_65 σ) := by
  unfold f_X11_bitsOf_65
  exact (PF.ret2 h)
theorem wf_X11_bitsOf {s : ST} {p0 : Int32} {σ : ST}   (h : K27 s σ) : PF st2 (K27 s) (f_X11_bitsOf p0 σ) := by
  unfold f_X11_bitsOf
  exact (PF.ite (fun _ => (PF.ite (fun _ => (PF.ite (fun _ => (wf_X11_bitsOf_31  h)) (fun _ => (wf_X11_bitsOf_31  h)))) (fun _ => (PF.ite (fun _ => (PF.bnd (wf_X11_isYes  h) (fun q2 hq2 => (PF.ac (PF.ite (fun _ => (PF.ret2 hq2)) (fun _ => (PF.ret2 hq2))))))) (fun _ => (PF.ite (fun _ => (wf_X11_bitsOf_65  h)) (fun _ => (PF.ite (fun _ => (wf_X11_bitsOf_65  h)) (fun _ => (PF.ret2 h)))))))))) (fun _ => PF.none))
theorem wf_X11_elseOf_139 {s : ST}  {σ : ST}   (h : K27 s σ) : PF st2 (K27 s) (f_X11_elseOf_139 σ) := by
  unfold f_X11_elseOf_139
  exact (PF.ret2 h)
theorem wf_X11_elseOf_121 {s : ST} {y0 : Int32} {σ : ST}   (h : K27 s σ) : PF st2 (K27 s) (f_X11_elseOf_121 y0 σ) := by
  unfold f_X11_elseOf_121
  exact (PF.bnd (wf_X11_go  h) (fun q1 hq1 => (PF.ite (fun _ => (wf_X11_elseOf_139  hq1)) (fun _ => (PF.bnd (wf_X11_mark  hq1) (fun q3 hq3 => (PF.ite (fun _ => (PF.ret2 hq3)) (fun _ => (wf_X11_elseOf_139  hq3)))))))))
theorem wf_X11_elseOf_106 {s : ST} {y0 : Int32} {y1 : Int32} {σ : ST}   (h : K27 s σ) : PF st2 (K27 s) (f_X11_elseOf_106 y0 y1 σ) := by
  unfold f_X11_elseOf_106
  exact (PF.ite (fun _ => (PF.ite (fun _ => (wf_X11_elseOf_121  (K27.i (by first | exact .inl (by decide) | exact .inr (.inl (by decide)) | exact .inr (.inr (by decide))) h))) (fun _ => (wf_X11_elseOf_121  (K27.i (by first | exact .inl (by decide) | exact .inr (.inl (by decide)) | exact .inr (.inr (by decide))) h))))) (fun _ => PF.none))
theorem wf_X11_elseOf_84 {s : ST} {x1 : Int32} {y0 : Int64} {y1 : Int32} {σ : ST}   (h : K27 s σ) : PF st2 (K27 s) (f_X11_elseOf_84 x1 y0 y1 σ) := by
  unfold f_X11_elseOf_84
  exact (PF.ite (fun _ => (PF.ite (fun _ => (wf_X11_elseOf_106  (K27.l h))) (fun _ => (wf_X11_elseOf_106  (K27.l h))))) (fun _ => PF.none))
theorem wf_X11_elseOf {s : ST} {p0 : Int32} {σ : ST}   (h : K27 s σ) : PF st2 (K27 s) (f_X11_elseOf p0 σ) := by
  unfold f_X11_elseOf
  exact (PF.bnd (wf_X11_isLiteral  h) (fun q1 hq1 => (PF.ac (PF.ite (fun _ => (PF.bnd (wf_X11_wrongHere  hq1) (fun q12 hq12 => (PF.ite (fun _ => (PF.ret2 hq12)) (fun _ => PF.none))))) (fun _ => (PF.ite (fun _ => (PF.bnd (wf_X11_firstOf  hq1) (fun q4 hq4 => (PF.bnd (wf_X11_fits  hq4) (fun q6 hq6 => (PF.ac (PF.ite (fun _ => (PF.bnd (wf_X11_wrongHere  hq6) (fun q10 hq10 => (PF.ite (fun _ => (PF.ret2 hq10)) (fun _ => PF.none))))) (fun _ => (PF.bnd (wf_X11_bitsOf  (K27.i (by first | exact .inl (by decide) | exact .inr (.inl (by decide)) | exact .inr (.inr (by decide))) hq6)) (fun q8 hq8 => (PF.ac (PF.ite (fun _ => (wf_X11_elseOf_84  (K27.l hq8))) (fun _ => (wf_X11_elseOf_84  (K27.l hq8))))))))))))))) (fun _ => PF.none)))))))
theorem wf_X11_field_169 {s : ST} {x1 : Int32} {x2 : Int32} {x3 : Int64} {σ : ST}   (h : K27 s σ) : PF st2 (K27 s) (f_X11_field_169 x1 x2 x3 σ) := by
  unfold f_X11_field_169
  exact (PF.bnd (wf_X11_isElse  h) (fun q1 hq1 => (PF.ac (PF.ite (fun _ => (wf_X11_field_190  hq1)) (fun _ => (PF.bnd (wf_X11_go  hq1) (fun q3 hq3 => (PF.bnd (wf_X11_elseOf  hq3) (fun q5 hq5 => (PF.ac (PF.ite (fun _ => (PF.ret2 hq5)) (fun _ => (wf_X11_field_190  hq5)))))))))))))
theorem wf_X11_field {s : ST} {p0 : Int32} {σ : ST}   (h : K27 s σ) : PF st2 (K27 s) (f_X11_field p0 σ) := by
  unfold f_X11_field
  exact (PF.bnd (wf_X11_isName  h) (fun q1 hq1 => (PF.ac (PF.ite (fun _ => (PF.bnd (wf_X11_wrongHere  hq1) (fun q28 hq28 => (PF.ite (fun _ => (PF.ret2 hq28)) (fun _ => PF.none))))) (fun _ => (PF.bnd (wf_X11_fieldOf  hq1) (fun q3 hq3 => (PF.ite (fun _ => (PF.ite (fun _ => (PF.ite (fun _ => (PF.bnd (wf_X11_wrongHere  hq3) (fun q24 hq24 => (PF.ite (fun _ => (PF.ret2 hq24)) (fun _ => PF.none))))) (fun _ => (PF.ite (fun _ => (PF.bnd (PF.ret0 (K27.l (K27.i (by first | exact .inl (by decide) | exact .inr (.inl (by decide)) | exact .inr (.inr (by decide))) hq3))) (fun z7 hz7 => (PF.bnd (wf_X11_go  (K27.i (by first | exact .inl (by decide) | exact .inr (.inl (by decide)) | exact .inr (.inr (by decide))) hz7)) (fun q8 hq8 => (PF.bnd (wf_T_X11_type hq8) (fun q10 hq10 => (PF.ac (PF.ite (fun _ => (PF.bnd (wf_X11_isWas  (K27.i (by first | exact .inl (by decide) | exact .inr (.inl (by decide)) | exact .inr (.inr (by decide))) hq10)) (fun q12 hq12 => (PF.ac (PF.ite (fun _ => (wf_X11_field_169  hq12)) (fun _ => (PF.bnd (wf_X11_go  hq12) (fun q14 hq14 => (PF.bnd (wf_X11_isName  hq14) (fun q16 hq16 => (PF.ac (PF.ite (fun _ => (PF.bnd (wf_X11_wrongHere  hq16) (fun q22 hq22 => (PF.ite (fun _ => (PF.ret2 hq22)) (fun _ => PF.none))))) (fun _ => (PF.ite (fun _ => (PF.bnd (wf_X11_wrongHere  hq16) (fun q20 hq20 => (PF.ite (fun _ => (PF.ret2 hq20)) (fun _ => PF.none))))) (fun _ => (PF.bnd (wf_X11_go  (K27.l hq16)) (fun q18 hq18 => (wf_X11_field_169  hq18)))))))))))))))))) (fun _ => (PF.ret2 (K27.i (by first | exact .inl (by decide) | exact .inr (.inl (by decide)) | exact .inr (.inr (by decide))) hq10)))))))))))) (fun _ => PF.none))))) (fun _ => PF.none))) (fun _ => (PF.bnd (wf_X11_wrongHere  hq3) (fun q26 hq26 => (PF.ite (fun _ => (PF.ret2 hq26)) (fun _ => PF.none)))))))))))))
theorem wf_X11_record_140 {s : ST} {x1 : Int32} {x3 : Int32} {σ : ST}   (h : K27 s σ) : PF st2 (K27 s) (f_X11_record_140 x1 x3 σ) := by
  unfold f_X11_record_140
  exact (PF.ite (fun _ => (PF.ite (fun _ => (PF.ret2 (K27.i (by first | exact .inl (by decide) | exact .inr (.inl (by decide)) | exact .inr (.inr (by decide))) h))) (fun _ => (PF.bnd (wf_X11_mark  (K27.i (by first | exact .inl (by decide) | exact .inr (.inl (by decide)) | exact .inr (.inr (by decide))) h)) (fun q2 hq2 => (PF.ite (fun _ => (PF.ret2 hq2)) (fun _ => (PF.ret2 hq2)))))))) (fun _ => PF.none))
theorem wf_X11_record_114 {s : ST}    : ∀ (n : Nat) (x1 : Int32) (x2 : Int32) (x3 : Int32) (σ : ST), K27 s σ → PF st2 (K27 s) (f_X11_record_114  n x1 x2 x3 σ) := by
  intro n
  induction n with
  | zero => intro x1 x2 x3 σ h; rw [f_X11_record_114]; exact PF.none
  | succ n ih =>
    intro x1 x2 x3 σ h
    rw [f_X11_record_114]
    exact (PF.ite (fun _ => (wf_X11_record_140  h)) (fun _ => (PF.ite (fun _ => (PF.bnd (wf_X11_go  h) (fun q1 hq1 => (PF.bnd (wf_X11_field  hq1) (fun q3 hq3 => (PF.ac (ih _ _ _ _ hq3))))))) (fun _ => (wf_X11_record_140  h)))))
theorem wf_X11_record {s : ST} {p0 : Int32} {σ : ST}   (h : K27 s σ) : PF st2 (K27 s) (f_X11_record p0 σ) := by
  unfold f_X11_record
  exact (PF.bnd (wf_X11_isRecord  h) (fun q1 hq1 => (PF.ac (PF.ite (fun _ => (PF.bnd (wf_X11_wrongHere  hq1) (fun q22 hq22 => (PF.ite (fun _ => (PF.ret2 hq22)) (fun _ => PF.none))))) (fun _ => (PF.ite (fun _ => (PF.ite (fun _ => (PF.bnd (wf_X11_wrongHere  hq1) (fun q20 hq20 => (PF.ite (fun _ => (PF.ret2 hq20)) (fun _ => PF.none))))) (fun _ => (PF.bnd (wf_X11_go  hq1) (fun q4 hq4 => (PF.bnd (wf_X11_isName  hq4) (fun q6 hq6 => (PF.ac (PF.ite (fun _ => (PF.bnd (wf_X11_wrongHere  hq6) (fun q18 hq18 => (PF.ite (fun _ => (PF.ret2 hq18)) (fun _ => PF.none))))) (fun _ => (PF.bnd (wf_X11_recordOf  hq6) (fun q8 hq8 => (PF.ite (fun _ => (PF.ite (fun _ => (PF.bnd (PF.ret0 (K27.i (by first | exact .inl (by decide) | exact .inr (.inl (by decide)) | exact .inr (.inr (by decide))) (K27.l hq8))) (fun z11 hz11 => (PF.bnd (wf_X11_go  (K27.i (by first | exact .inl (by decide) | exact .inr (.inl (by decide)) | exact .inr (.inr (by decide))) hz11)) (fun q12 hq12 => (PF.bnd (wf_X11_field  hq12) (fun q14 hq14 => (PF.ac (wf_X11_record_114  _ _ _ _ _ hq14))))))))) (fun _ => PF.none))) (fun _ => (PF.bnd (wf_X11_wrongHere  hq8) (fun q16 hq16 => (PF.ite (fun _ => (PF.ret2 hq16)) (fun _ => PF.none)))))))))))))))))) (fun _ => PF.none)))))))
theorem wf_X11_plan_75 {s : ST}    : ∀ (n : Nat) (x1 : Int32) (x2 : Int32) (x3 : Int32) (σ : ST), K27 s σ → PF st2 (K27 s) (f_X11_plan_75  n x1 x2 x3 σ) := by
  intro n
  induction n with
  | zero => intro x1 x2 x3 σ h; rw [f_X11_plan_75]; exact PF.none
  | succ n ih =>
    intro x1 x2 x3 σ h
    rw [f_X11_plan_75]
    exact (PF.ite (fun _ => (wf_X11_plan_95  h)) (fun _ => (PF.bnd (wf_X11_isRecord  h) (fun q1 hq1 => (PF.ac (PF.ite (fun _ => (wf_X11_plan_95  hq1)) (fun _ => (PF.bnd (wf_X11_record  hq1) (fun q3 hq3 => (PF.ac (ih _ _ _ _ hq3)))))))))))
theorem wf_X11_plan_74 {s : ST} {x1 : Int32} {x2 : Int32} {y0 : Int32} {σ : ST}   (h : K27 s σ) : PF st2 (K27 s) (f_X11_plan_74 x1 x2 y0 σ) := by
  unfold f_X11_plan_74
  exact (wf_X11_plan_75  _ _ _ _ _ h)
theorem wf_X11_plan_73 {s : ST} {x1 : Int32} {x2 : Int32} {σ : ST}   (h : K27 s σ) : PF st2 (K27 s) (f_X11_plan_73 x1 x2 σ) := by
  unfold f_X11_plan_73
  exact (wf_X11_plan_74  h)
theorem wf_X11_plan {s : ST}  {σ : ST}   (h : K27 s σ) : PF st2 (K27 s) (f_X11_plan σ) := by
  unfold f_X11_plan
  exact (PF.bnd (wf_X11_isPlan  h) (fun q1 hq1 => (PF.ac (PF.ite (fun _ => (PF.bnd (wf_X11_wrongHere  hq1) (fun q12 hq12 => (PF.ite (fun _ => (PF.ret2 hq12)) (fun _ => PF.none))))) (fun _ => (PF.ite (fun _ => (PF.bnd (wf_X11_wrongHere  hq1) (fun q10 hq10 => (PF.ite (fun _ => (PF.ret2 hq10)) (fun _ => PF.none))))) (fun _ => (PF.ite (fun _ => (PF.bnd (wf_X11_go  (K27.i (by first | exact .inl (by decide) | exact .inr (.inl (by decide)) | exact .inr (.inr (by decide))) hq1)) (fun q4 hq4 => (PF.bnd (wf_X11_mark  hq4) (fun q6 hq6 => (PF.ite (fun _ => (wf_X11_plan_73  hq6)) (fun _ => (PF.bnd (wf_X11_record  hq6) (fun q8 hq8 => (PF.ac (PF.ite (fun _ => (wf_X11_plan_73  hq8)) (fun _ => (wf_X11_plan_74  hq8))))))))))))) (fun _ => PF.none)))))))))
theorem wf_X11_moved {s : ST} {p0 : Int32} {σ : ST}   (h : K27 s σ) : PF st1 (K27 s) (f_X11_moved p0 σ) := by
  unfold f_X11_moved
  exact (PF.ite (fun _ => (PF.ret1 h)) (fun _ => (PF.ret1 h)))
theorem wf_X11_takes_301 {s : ST} {k220 : Int32 → ST → Option (ST)} (h_k220 : ∀ (x1 : Int32) (σ : ST), K27 s σ → PF st0 (K27 s) (k220 x1 σ))  : ∀ (n : Nat) (x1 : Int32) (x2 : Int32) (σ : ST), K27 s σ → PF st0 (K27 s) (f_X11_takes_301 k220 n x1 x2 σ) := by
  intro n
  induction n with
  | zero => intro x1 x2 σ h; rw [f_X11_takes_301]; exact PF.none
  | succ n ih =>
    intro x1 x2 σ h
    rw [f_X11_takes_301]
    exact (PF.ite (fun _ => (PF.ite (fun _ => (h_k220 _ _ h)) (fun _ => (PF.ite (fun _ => (PF.bnd (wf_X11_moved  h) (fun q3 hq3 => (PF.ite (fun _ => (ih _ _ _ (K27.i (by first | exact .inl (by decide) | exact .inr (.inl (by decide)) | exact .inr (.inr (by decide))) hq3))) (fun _ => PF.none))))) (fun _ => PF.none))))) (fun _ => PF.none))
theorem wf_X11_takes_282 {s : ST} {k220 : Int32 → ST → Option (ST)} {x1 : Int32} {y0 : Int32} {y1 : Int32} {σ : ST} (h_k220 : ∀ (x1 : Int32) (σ : ST), K27 s σ → PF st0 (K27 s) (k220 x1 σ))  (h : K27 s σ) : PF st0 (K27 s) (f_X11_takes_282 k220 x1 y0 y1 σ) := by
  unfold f_X11_takes_282
  exact (PF.ite (fun _ => (PF.ite (fun _ => (PF.ite (fun _ => (PF.bnd (PF.ret0 (K27.i (by first | exact .inl (by decide) | exact .inr (.inl (by decide)) | exact .inr (.inr (by decide))) (K27.i (by first | exact .inl (by decide) | exact .inr (.inl (by decide)) | exact .inr (.inr (by decide))) h))) (fun z4 hz4 => (wf_X11_takes_301 h_k220 _ _ _ _ hz4)))) (fun _ => PF.none))) (fun _ => PF.none))) (fun _ => PF.none))
theorem wf_X11_takes_220 {s : ST}    : ∀ (n : Nat) (x1 : Int32) (σ : ST), K27 s σ → PF st0 (K27 s) (f_X11_takes_220  n x1 σ) := by
  intro n
  induction n with
  | zero => intro x1 σ h; rw [f_X11_takes_220]; exact PF.none
  | succ n ih =>
    intro x1 σ h
    rw [f_X11_takes_220]
    exact (PF.ite (fun _ => (PF.ret0 h)) (fun _ => (PF.ite (fun _ => (PF.ite (fun _ => (PF.ite (fun _ => (PF.bnd (wf_X11_moved  (K27.i (by first | exact .inl (by decide) | exact .inr (.inl (by decide)) | exact .inr (.inr (by decide))) h)) (fun q3 hq3 => (wf_X11_takes_282 ih hq3)))) (fun _ => (wf_X11_takes_282 ih (K27.i (by first | exact .inl (by decide) | exact .inr (.inl (by decide)) | exact .inr (.inr (by decide))) h))))) (fun _ => PF.none))) (fun _ => PF.none))))
theorem wf_X11_takes_98 {s : ST}    : ∀ (n : Nat) (x1 : Int32) (σ : ST), K27 s σ → PF st0 (K27 s) (f_X11_takes_98  n x1 σ) := by
  intro n
  induction n with
  | zero => intro x1 σ h; rw [f_X11_takes_98]; exact PF.none
  | succ n ih =>
    intro x1 σ h
    rw [f_X11_takes_98]
    exact (PF.ite (fun _ => (wf_X11_takes_220  _ _ _ h)) (fun _ => (PF.ite (fun _ => (PF.ite (fun _ => (PF.bnd (PF.ret0 (K27.i (by first | exact .inl (by decide) | exact .inr (.inl (by decide)) | exact .inr (.inr (by decide))) (K27.l h))) (fun z3 hz3 => (PF.bnd (wf_X11_moved  (K27.l hz3)) (fun q4 hq4 => (PF.bnd (PF.ret0 (K27.i (by first | exact .inl (by decide) | exact .inr (.inl (by decide)) | exact .inr (.inr (by decide))) (K27.i (by first | exact .inl (by decide) | exact .inr (.inl (by decide)) | exact .inr (.inr (by decide))) hq4))) (fun z6 hz6 => (PF.bnd (PF.ret0 (K27.l (K27.l hz6))) (fun z7 hz7 => (ih _ _ (K27.i (by first | exact .inl (by decide) | exact .inr (.inl (by decide)) | exact .inr (.inr (by decide))) hz7))))))))))) (fun _ => PF.none))) (fun _ => PF.none))))
theorem wf_X11_takes_39 {s : ST}    : ∀ (n : Nat) (x1 : Int32) (σ : ST), K27 s σ → PF st0 (K27 s) (f_X11_takes_39  n x1 σ) := by
  intro n
  induction n with
  | zero => intro x1 σ h; rw [f_X11_takes_39]; exact PF.none
  | succ n ih =>
    intro x1 σ h
    rw [f_X11_takes_39]
    exact (PF.ite (fun _ => (wf_X11_takes_98  _ _ _ h)) (fun _ => (PF.ite (fun _ => (PF.ite (fun _ => (PF.bnd (PF.ret0 (K27.i (by first | exact .inl (by decide) | exact .inr (.inl (by decide)) | exact .inr (.inr (by decide))) (K27.l h))) (fun z3 hz3 => (ih _ _ (K27.i (by first | exact .inl (by decide) | exact .inr (.inl (by decide)) | exact .inr (.inr (by decide))) hz3))))) (fun _ => PF.none))) (fun _ => PF.none))))
theorem wf_X11_takes_10 {s : ST}    : ∀ (n : Nat) (x1 : Int32) (σ : ST), K27 s σ → PF st0 (K27 s) (f_X11_takes_10  n x1 σ) := by
  intro n
  induction n with
  | zero => intro x1 σ h; rw [f_X11_takes_10]; exact PF.none
  | succ n ih =>
    intro x1 σ h
    rw [f_X11_takes_10]
    exact (PF.ite (fun _ => (wf_X11_takes_39  _ _ _ h)) (fun _ => (PF.ite (fun _ => (PF.ite (fun _ => (ih _ _ (K27.i (by first | exact .inl (by decide) | exact .inr (.inl (by decide)) | exact .inr (.inr (by decide))) h))) (fun _ => PF.none))) (fun _ => PF.none))))
theorem wf_X11_takes {s : ST}  {σ : ST}   (h : K27 s σ) : PF st0 (K27 s) (f_X11_takes σ) := by
  unfold f_X11_takes
  exact (wf_X11_takes_10  _ _ _ (K27.i (by first | exact .inl (by decide) | exact .inr (.inl (by decide)) | exact .inr (.inr (by decide))) h))
theorem wf_X11_plans_80 {s : ST}    : ∀ (n : Nat) (x1 : Int32) (σ : ST), K27 s σ → PF st2 (K27 s) (f_X11_plans_80  n x1 σ) := by
  intro n
  induction n with
  | zero => intro x1 σ h; rw [f_X11_plans_80]; exact PF.none
  | succ n ih =>
    intro x1 σ h
    rw [f_X11_plans_80]
    exact (PF.ite (fun _ => (PF.ret2 (K27.i (by first | exact .inl (by decide) | exact .inr (.inl (by decide)) | exact .inr (.inr (by decide))) (K27.i (by first | exact .inl (by decide) | exact .inr (.inl (by decide)) | exact .inr (.inr (by decide))) (K27.i (by first | exact .inl (by decide) | exact .inr (.inl (by decide)) | exact .inr (.inr (by decide))) (K27.i (by first | exact .inl (by decide) | exact .inr (.inl (by decide)) | exact .inr (.inr (by decide))) (K27.i (by first | exact .inl (by decide) | exact .inr (.inl (by decide)) | exact .inr (.inr (by decide))) h))))))) (fun _ => (PF.ite (fun _ => (ih _ _ (K27.i (by first | exact .inl (by decide) | exact .inr (.inl (by decide)) | exact .inr (.inr (by decide))) h))) (fun _ => PF.none))))
theorem wf_X11_plans_62 {s : ST} {x2 : Int32} {σ : ST}   (h : K27 s σ) : PF st2 (K27 s) (f_X11_plans_62 x2 σ) := by
  unfold f_X11_plans_62
  exact (PF.ite (fun _ => (PF.ret2 h)) (fun _ => (PF.bnd (wf_X11_takes  h) (fun q1 hq1 => (wf_X11_plans_80  _ _ _ hq1)))))
theorem wf_X11_plans_43 {s : ST}    : ∀ (n : Nat) (x1 : Int32) (σ : ST), K27 s σ → PF st2 (K27 s) (f_X11_plans_43  n x1 σ) := by
  intro n
  induction n with
  | zero => intro x1 σ h; rw [f_X11_plans_43]; exact PF.none
  | succ n ih =>
    intro x1 σ h
    rw [f_X11_plans_43]
    exact (PF.ite (fun _ => (wf_X11_plans_62  h)) (fun _ => (PF.ite (fun _ => (wf_X11_plans_62  h)) (fun _ => (PF.bnd (wf_X11_plan  h) (fun q1 hq1 => (PF.ac (ih _ _ hq1))))))))
theorem wf_X11_plans {s : ST} {p0 : Int32} {σ : ST}   (h : K27 s σ) : PF st2 (K27 s) (f_X11_plans p0 σ) := by
  unfold f_X11_plans
  exact (PF.bnd (wf_X11_within  (K27.i (by first | exact .inl (by decide) | exact .inr (.inl (by decide)) | exact .inr (.inr (by decide))) h)) (fun q1 hq1 => (PF.ite (fun _ => (PF.ret2 hq1)) (fun _ => (PF.bnd (wf_X11_begins  hq1) (fun q3 hq3 => (PF.bnd (wf_X11_plan  (K27.i (by first | exact .inl (by decide) | exact .inr (.inl (by decide)) | exact .inr (.inr (by decide))) (K27.i (by first | exact .inl (by decide) | exact .inr (.inl (by decide)) | exact .inr (.inr (by decide))) hq3))) (fun q5 hq5 => (PF.ac (wf_X11_plans_43  _ _ _ hq5))))))))))
theorem wf_X11_isPlanAt {s : ST} {p0 : Int32} {σ : ST}   (h : K27 s σ) : PF st1 (K27 s) (f_X11_isPlanAt p0 σ) := by
  unfold f_X11_isPlanAt
  exact (PF.bnd (wf_X11_within  h) (fun q1 hq1 => (PF.ite (fun _ => (PF.ret1 hq1)) (fun _ => PF.none))))
theorem wf_X11_items_70 {s : ST} {r_X11_items : Int32 → Int32 → Int32 → Int32 → ST → Option ((Int32 × ST) × Nat)} {r_X11_parts : Int32 → Int32 → Int32 → Int32 → ST → Option ((Int32 × ST) × Nat)} {r_X11_value : Int32 → Int32 → Int32 → Int32 → Int32 → ST → Option ((Int32 × ST) × Nat)} {k25 : Int32 → Int32 → Int32 → Int32 → Int32 → Int32 → ST → Option ((Int32 × ST) × Nat)} {x1 : Int32} {x2 : Int32} {x3 : Int32} {x4 : Int32} {x5 : Int32} {y0 : Int32} {σ : ST} (h_r_X11_items : ∀ (x1 : Int32) (x2 : Int32) (x3 : Int32) (x4 : Int32) (σ : ST), K27 s σ → PF st2 (K27 s) (r_X11_items x1 x2 x3 x4 σ)) (h_r_X11_parts : ∀ (x1 : Int32) (x2 : Int32) (x3 : Int32) (x4 : Int32) (σ : ST), K27 s σ → PF st2 (K27 s) (r_X11_parts x1 x2 x3 x4 σ)) (h_r_X11_value : ∀ (x1 : Int32) (x2 : Int32) (x3 : Int32) (x4 : Int32) (x5 : Int32) (σ : ST), K27 s σ → PF st2 (K27 s) (r_X11_value x1 x2 x3 x4 x5 σ)) (h_k25 : ∀ (x1 : Int32) (x2 : Int32) (x3 : Int32) (x4 : Int32) (x5 : Int32) (x6 : Int32) (σ : ST), K27 s σ → PF st2 (K27 s) (k25 x1 x2 x3 x4 x5 x6 σ))  (h : K27 s σ) : PF st2 (K27 s) (f_X11_items_70 r_X11_items r_X11_parts r_X11_value k25 x1 x2 x3 x4 x5 y0 σ) := by
  unfold f_X11_items_70
  exact (PF.ite (fun _ => (h_k25 _ _ _ _ _ _ _ h)) (fun _ => (PF.bnd (wf_X11_go  h) (fun q1 hq1 => (h_k25 _ _ _ _ _ _ _ hq1)))))
theorem wf_X11_items_25 {s : ST} {r_X11_items : Int32 → Int32 → Int32 → Int32 → ST → Option ((Int32 × ST) × Nat)} {r_X11_parts : Int32 → Int32 → Int32 → Int32 → ST → Option ((Int32 × ST) × Nat)} {r_X11_value : Int32 → Int32 → Int32 → Int32 → Int32 → ST → Option ((Int32 × ST) × Nat)} (h_r_X11_items : ∀ (x1 : Int32) (x2 : Int32) (x3 : Int32) (x4 : Int32) (σ : ST), K27 s σ → PF st2 (K27 s) (r_X11_items x1 x2 x3 x4 σ)) (h_r_X11_parts : ∀ (x1 : Int32) (x2 : Int32) (x3 : Int32) (x4 : Int32) (σ : ST), K27 s σ → PF st2 (K27 s) (r_X11_parts x1 x2 x3 x4 σ)) (h_r_X11_value : ∀ (x1 : Int32) (x2 : Int32) (x3 : Int32) (x4 : Int32) (x5 : Int32) (σ : ST), K27 s σ → PF st2 (K27 s) (r_X11_value x1 x2 x3 x4 x5 σ))  : ∀ (n : Nat) (x1 : Int32) (x2 : Int32) (x3 : Int32) (x4 : Int32) (x5 : Int32) (x6 : Int32) (σ : ST), K27 s σ → PF st2 (K27 s) (f_X11_items_25 r_X11_items r_X11_parts r_X11_value n x1 x2 x3 x4 x5 x6 σ) := by
  intro n
  induction n with
  | zero => intro x1 x2 x3 x4 x5 x6 σ h; rw [f_X11_items_25]; exact PF.none
  | succ n ih =>
    intro x1 x2 x3 x4 x5 x6 σ h
    rw [f_X11_items_25]
    exact (PF.ite (fun _ => (PF.bnd (wf_X11_mark  h) (fun q1 hq1 => (PF.ite (fun _ => (PF.ret2 hq1)) (fun _ => PF.none))))) (fun _ => (PF.ite (fun _ => (PF.bnd (h_r_X11_value _ _ _ _ _ _ h) (fun q4 hq4 => (PF.ac (PF.ite (fun _ => (PF.ret2 hq4)) (fun _ => (PF.ite (fun _ => (wf_X11_items_70 h_r_X11_items h_r_X11_parts h_r_X11_value ih hq4)) (fun _ => (wf_X11_items_70 h_r_X11_items h_r_X11_parts h_r_X11_value ih hq4))))))))) (fun _ => PF.none))))
theorem wf_X11_items {s : ST} {r_X11_items : Int32 → Int32 → Int32 → Int32 → ST → Option ((Int32 × ST) × Nat)} {r_X11_parts : Int32 → Int32 → Int32 → Int32 → ST → Option ((Int32 × ST) × Nat)} {r_X11_value : Int32 → Int32 → Int32 → Int32 → Int32 → ST → Option ((Int32 × ST) × Nat)} {p0 : Int32} {p1 : Int32} {p2 : Int32} {p3 : Int32} {σ : ST} (h_r_X11_items : ∀ (x1 : Int32) (x2 : Int32) (x3 : Int32) (x4 : Int32) (σ : ST), K27 s σ → PF st2 (K27 s) (r_X11_items x1 x2 x3 x4 σ)) (h_r_X11_parts : ∀ (x1 : Int32) (x2 : Int32) (x3 : Int32) (x4 : Int32) (σ : ST), K27 s σ → PF st2 (K27 s) (r_X11_parts x1 x2 x3 x4 σ)) (h_r_X11_value : ∀ (x1 : Int32) (x2 : Int32) (x3 : Int32) (x4 : Int32) (x5 : Int32) (σ : ST), K27 s σ → PF st2 (K27 s) (r_X11_value x1 x2 x3 x4 x5 σ))  (h : K27 s σ) : PF st2 (K27 s) (f_X11_items r_X11_items r_X11_parts r_X11_value p0 p1 p2 p3 σ) := by
  unfold f_X11_items
  exact (PF.bnd (wf_X11_go  h) (fun q1 hq1 => (PF.ite (fun _ => (PF.bnd (wf_X11_go  hq1) (fun q3 hq3 => (PF.ret2 hq3)))) (fun _ => (wf_X11_items_25 h_r_X11_items h_r_X11_parts h_r_X11_value _ _ _ _ _ _ _ _ hq1)))))
theorem wf_X11_hasChild_35 {s : ST} {k10 : Int32 → Int32 → Int32 → ST → Option (Int32 × ST)} {x2 : Int32} {x4 : Int32} {y0 : Int32} {σ : ST} (h_k10 : ∀ (x1 : Int32) (x2 : Int32) (x3 : Int32) (σ : ST), K27 s σ → PF st1 (K27 s) (k10 x1 x2 x3 σ))  (h : K27 s σ) : PF st1 (K27 s) (f_X11_hasChild_35 k10 x2 x4 y0 σ) := by
  unfold f_X11_hasChild_35
  exact (PF.ite (fun _ => (h_k10 _ _ _ _ h)) (fun _ => PF.none))
theorem wf_X11_hasChild_30 {s : ST} {k10 : Int32 → Int32 → Int32 → ST → Option (Int32 × ST)} {x2 : Int32} {x4 : Int32} {σ : ST} (h_k10 : ∀ (x1 : Int32) (x2 : Int32) (x3 : Int32) (σ : ST), K27 s σ → PF st1 (K27 s) (k10 x1 x2 x3 σ))  (h : K27 s σ) : PF st1 (K27 s) (f_X11_hasChild_30 k10 x2 x4 σ) := by
  unfold f_X11_hasChild_30
  exact (wf_X11_hasChild_35 h_k10 h)
theorem wf_X11_hasChild_10 {s : ST}    : ∀ (n : Nat) (x1 : Int32) (x2 : Int32) (x3 : Int32) (σ : ST), K27 s σ → PF st1 (K27 s) (f_X11_hasChild_10  n x1 x2 x3 σ) := by
  intro n
  induction n with
  | zero => intro x1 x2 x3 σ h; rw [f_X11_hasChild_10]; exact PF.none
  | succ n ih =>
    intro x1 x2 x3 σ h
    rw [f_X11_hasChild_10]
    exact (PF.ite (fun _ => (PF.ite (fun _ => (PF.ret1 h)) (fun _ => PF.none))) (fun _ => (PF.ite (fun _ => (PF.ite (fun _ => (PF.ite (fun _ => (wf_X11_hasChild_30 ih h)) (fun _ => (wf_X11_hasChild_35 ih h)))) (fun _ => PF.none))) (fun _ => (wf_X11_hasChild_30 ih h)))))
theorem wf_X11_hasChild {s : ST} {p0 : Int32} {p1 : Int32} {σ : ST}   (h : K27 s σ) : PF st1 (K27 s) (f_X11_hasChild p0 p1 σ) := by
  unfold f_X11_hasChild
  exact (PF.ite (fun _ => (wf_X11_hasChild_10  _ _ _ _ _ h)) (fun _ => PF.none))
theorem wf_X11_joins_147 {s : ST} {x1 : Int32} {x2 : Int32} {σ : ST}   (h : K27 s σ) : PF st0 (K27 s) (f_X11_joins_147 x1 x2 σ) := by
  unfold f_X11_joins_147
  exact (PF.ite (fun _ => (PF.ite (fun _ => (PF.ret0 h)) (fun _ => (PF.ite (fun _ => (PF.ret0 (K27.i (by first | exact .inl (by decide) | exact .inr (.inl (by decide)) | exact .inr (.inr (by decide))) h))) (fun _ => PF.none))))) (fun _ => PF.none))
theorem wf_X11_joins_125 {s : ST} {x1 : Int32} {x2 : Int32} {x3 : Int32} {y0 : Int32} {y1 : Int32} {σ : ST}   (h : K27 s σ) : PF st0 (K27 s) (f_X11_joins_125 x1 x2 x3 y0 y1 σ) := by
  unfold f_X11_joins_125
  exact (PF.ite (fun _ => (PF.ite (fun _ => (PF.ite (fun _ => (wf_X11_joins_147  (K27.i (by first | exact .inl (by decide) | exact .inr (.inl (by decide)) | exact .inr (.inr (by decide))) (K27.i (by first | exact .inl (by decide) | exact .inr (.inl (by decide)) | exact .inr (.inr (by decide))) h)))) (fun _ => PF.none))) (fun _ => (PF.ite (fun _ => (wf_X11_joins_147  (K27.i (by first | exact .inl (by decide) | exact .inr (.inl (by decide)) | exact .inr (.inr (by decide))) (K27.i (by first | exact .inl (by decide) | exact .inr (.inl (by decide)) | exact .inr (.inr (by decide))) h)))) (fun _ => PF.none))))) (fun _ => PF.none))
theorem wf_X11_joins_101 {s : ST} {x1 : Int32} {x2 : Int32} {x3 : Int32} {σ : ST}   (h : K27 s σ) : PF st0 (K27 s) (f_X11_joins_101 x1 x2 x3 σ) := by
  unfold f_X11_joins_101
  exact (PF.ite (fun _ => (PF.ite (fun _ => (wf_X11_joins_125  h)) (fun _ => PF.none))) (fun _ => (PF.ite (fun _ => (wf_X11_joins_125  h)) (fun _ => PF.none))))
theorem wf_X11_joins_65 {s : ST}    : ∀ (n : Nat) (x1 : Int32) (x2 : Int32) (x3 : Int32) (x4 : Int32) (σ : ST), K27 s σ → PF st0 (K27 s) (f_X11_joins_65  n x1 x2 x3 x4 σ) := by
  intro n
  induction n with
  | zero => intro x1 x2 x3 x4 σ h; rw [f_X11_joins_65]; exact PF.none
  | succ n ih =>
    intro x1 x2 x3 x4 σ h
    rw [f_X11_joins_65]
    exact (PF.ite (fun _ => (wf_X11_joins_101  h)) (fun _ => (PF.ite (fun _ => (PF.ite (fun _ => (PF.ite (fun _ => (wf_X11_joins_101  h)) (fun _ => (ih _ _ _ _ _ h)))) (fun _ => PF.none))) (fun _ => PF.none))))
theorem wf_X11_joins_51 {s : ST} {x1 : Int32} {x2 : Int32} {x3 : Int32} {y0 : Int32} {σ : ST}   (h : K27 s σ) : PF st0 (K27 s) (f_X11_joins_51 x1 x2 x3 y0 σ) := by
  unfold f_X11_joins_51
  exact (PF.ite (fun _ => (wf_X11_joins_65  _ _ _ _ _ _ h)) (fun _ => (PF.ite (fun _ => (wf_X11_joins_65  _ _ _ _ _ _ h)) (fun _ => PF.none))))
theorem wf_X11_joins_45 {s : ST} {x1 : Int32} {x2 : Int32} {x3 : Int32} {σ : ST}   (h : K27 s σ) : PF st0 (K27 s) (f_X11_joins_45 x1 x2 x3 σ) := by
  unfold f_X11_joins_45
  exact (PF.ite (fun _ => (wf_X11_joins_51  h)) (fun _ => PF.none))
theorem wf_X11_joins {s : ST} {p0 : Int32} {p1 : Int32} {σ : ST}   (h : K27 s σ) : PF st0 (K27 s) (f_X11_joins p0 p1 σ) := by
  unfold f_X11_joins
  exact (PF.ite (fun _ => (PF.ite (fun _ => (wf_X11_joins_45  (K27.i (by first | exact .inl (by decide) | exact .inr (.inl (by decide)) | exact .inr (.inr (by decide))) h))) (fun _ => (PF.ite (fun _ => (PF.ite (fun _ => (PF.ite (fun _ => (wf_X11_joins_45  (K27.i (by first | exact .inl (by decide) | exact .inr (.inl (by decide)) | exact .inr (.inr (by decide))) h))) (fun _ => (wf_X11_joins_51  (K27.i (by first | exact .inl (by decide) | exact .inr (.inl (by decide)) | exact .inr (.inr (by decide))) h))))) (fun _ => PF.none))) (fun _ => PF.none))))) (fun _ => PF.none))
theorem wf_X11_laysNode {s : ST} {p0 : Int32} {p1 : Int32} {p2 : Int32} {p3 : Int32} {σ : ST}   (h : K27 s σ) : PF st1 (K27 s) (f_X11_laysNode p0 p1 p2 p3 σ) := by
  unfold f_X11_laysNode
  exact (PF.ite (fun _ => (PF.bnd (PF.ret0 (K27.l (K27.i (by first | exact .inl (by decide) | exact .inr (.inl (by decide)) | exact .inr (.inr (by decide))) (K27.i (by first | exact .inl (by decide) | exact .inr (.inl (by decide)) | exact .inr (.inr (by decide))) h)))) (fun z2 hz2 => (PF.bnd (PF.ret0 (K27.i (by first | exact .inl (by decide) | exact .inr (.inl (by decide)) | exact .inr (.inr (by decide))) (K27.i (by first | exact .inl (by decide) | exact .inr (.inl (by decide)) | exact .inr (.inr (by decide))) (K27.l hz2)))) (fun z3 hz3 => (PF.bnd (PF.ret0 (K27.i (by first | exact .inl (by decide) | exact .inr (.inl (by decide)) | exact .inr (.inr (by decide))) (K27.i (by first | exact .inl (by decide) | exact .inr (.inl (by decide)) | exact .inr (.inr (by decide))) (K27.i (by first | exact .inl (by decide) | exact .inr (.inl (by decide)) | exact .inr (.inr (by decide))) hz3)))) (fun z4 hz4 => (PF.bnd (PF.ret0 (K27.i (by first | exact .inl (by decide) | exact .inr (.inl (by decide)) | exact .inr (.inr (by decide))) (K27.i (by first | exact .inl (by decide) | exact .inr (.inl (by decide)) | exact .inr (.inr (by decide))) (K27.i (by first | exact .inl (by decide) | exact .inr (.inl (by decide)) | exact .inr (.inr (by decide))) hz4)))) (fun z5 hz5 => (PF.ite (fun _ => (PF.ret1 hz5)) (fun _ => (PF.bnd (wf_X11_joins  hz5) (fun q6 hq6 => (PF.ret1 hq6)))))))))))))) (fun _ => PF.none))
theorem wf_X11_fills_103 {s : ST} {x6 : Int32} {y0 : Int32} {y1 : Int32} {σ : ST}   (h : K27 s σ) : PF st0 (K27 s) (f_X11_fills_103 x6 y0 y1 σ) := by
  unfold f_X11_fills_103
  exact (PF.ite (fun _ => (PF.ite (fun _ => (PF.ret0 (K27.i (by first | exact .inl (by decide) | exact .inr (.inl (by decide)) | exact .inr (.inr (by decide))) (K27.i (by first | exact .inl (by decide) | exact .inr (.inl (by decide)) | exact .inr (.inr (by decide))) h)))) (fun _ => PF.none))) (fun _ => PF.none))
theorem wf_X11_fills_45 {s : ST} {x1 : Int32} {x5 : Int32} {y0 : Int32} {y1 : Int32} {y2 : Int32} {y3 : Int32} {σ : ST}   (h : K27 s σ) : PF st0 (K27 s) (f_X11_fills_45 x1 x5 y0 y1 y2 y3 σ) := by
  unfold f_X11_fills_45
  exact (PF.bnd (wf_X11_laysNode  h) (fun q1 hq1 => (PF.ite (fun _ => (PF.ite (fun _ => (PF.bnd (PF.ret0 (K27.l (K27.l hq1))) (fun z5 hz5 => (PF.ite (fun _ => (PF.ite (fun _ => (wf_X11_fills_103  hz5)) (fun _ => (wf_X11_fills_103  hz5)))) (fun _ => PF.none))))) (fun _ => PF.none))) (fun _ => PF.none))))
theorem wf_X11_fills {s : ST} {p0 : Int32} {p1 : Int32} {p2 : Int32} {σ : ST}   (h : K27 s σ) : PF st0 (K27 s) (f_X11_fills p0 p1 p2 σ) := by
  unfold f_X11_fills
  exact (PF.ite (fun _ => (PF.bnd (wf_X11_firstOf  h) (fun q2 hq2 => (PF.ite (fun _ => (PF.ite (fun _ => (wf_X11_fills_45  hq2)) (fun _ => (wf_X11_fills_45  hq2)))) (fun _ => PF.none))))) (fun _ => PF.none))
theorem wf_X11_parts_233 {s : ST} {r_X11_items : Int32 → Int32 → Int32 → Int32 → ST → Option ((Int32 × ST) × Nat)} {r_X11_parts : Int32 → Int32 → Int32 → Int32 → ST → Option ((Int32 × ST) × Nat)} {r_X11_value : Int32 → Int32 → Int32 → Int32 → Int32 → ST → Option ((Int32 × ST) × Nat)} {k171 : Int32 → Int32 → Int32 → ST → Option ((Int32 × ST) × Nat)} {x4 : Int32} {x5 : Int32} {x7 : Int32} {σ : ST} (h_r_X11_items : ∀ (x1 : Int32) (x2 : Int32) (x3 : Int32) (x4 : Int32) (σ : ST), K27 s σ → PF st2 (K27 s) (r_X11_items x1 x2 x3 x4 σ)) (h_r_X11_parts : ∀ (x1 : Int32) (x2 : Int32) (x3 : Int32) (x4 : Int32) (σ : ST), K27 s σ → PF st2 (K27 s) (r_X11_parts x1 x2 x3 x4 σ)) (h_r_X11_value : ∀ (x1 : Int32) (x2 : Int32) (x3 : Int32) (x4 : Int32) (x5 : Int32) (σ : ST), K27 s σ → PF st2 (K27 s) (r_X11_value x1 x2 x3 x4 x5 σ)) (h_k171 : ∀ (x1 : Int32) (x2 : Int32) (x3 : Int32) (σ : ST), K27 s σ → PF st2 (K27 s) (k171 x1 x2 x3 σ))  (h : K27 s σ) : PF st2 (K27 s) (f_X11_parts_233 r_X11_items r_X11_parts r_X11_value k171 x4 x5 x7 σ) := by
  unfold f_X11_parts_233
  exact (h_k171 _ _ _ _ h)
theorem wf_X11_parts_171 {s : ST} {r_X11_items : Int32 → Int32 → Int32 → Int32 → ST → Option ((Int32 × ST) × Nat)} {r_X11_parts : Int32 → Int32 → Int32 → Int32 → ST → Option ((Int32 × ST) × Nat)} {r_X11_value : Int32 → Int32 → Int32 → Int32 → Int32 → ST → Option ((Int32 × ST) × Nat)} (h_r_X11_items : ∀ (x1 : Int32) (x2 : Int32) (x3 : Int32) (x4 : Int32) (σ : ST), K27 s σ → PF st2 (K27 s) (r_X11_items x1 x2 x3 x4 σ)) (h_r_X11_parts : ∀ (x1 : Int32) (x2 : Int32) (x3 : Int32) (x4 : Int32) (σ : ST), K27 s σ → PF st2 (K27 s) (r_X11_parts x1 x2 x3 x4 σ)) (h_r_X11_value : ∀ (x1 : Int32) (x2 : Int32) (x3 : Int32) (x4 : Int32) (x5 : Int32) (σ : ST), K27 s σ → PF st2 (K27 s) (r_X11_value x1 x2 x3 x4 x5 σ))  : ∀ (n : Nat) (x1 : Int32) (x2 : Int32) (x3 : Int32) (σ : ST), K27 s σ → PF st2 (K27 s) (f_X11_parts_171 r_X11_items r_X11_parts r_X11_value n x1 x2 x3 σ) := by
  intro n
  induction n with
  | zero => intro x1 x2 x3 σ h; rw [f_X11_parts_171]; exact PF.none
  | succ n ih =>
    intro x1 x2 x3 σ h
    rw [f_X11_parts_171]
    exact (PF.ite (fun _ => (PF.ite (fun _ => (PF.bnd (wf_X11_go  h) (fun q2 hq2 => (PF.ret2 hq2)))) (fun _ => (PF.bnd (wf_X11_hasChild  h) (fun q4 hq4 => (PF.ite (fun _ => (PF.ite (fun _ => (PF.ite (fun _ => (PF.bnd (wf_X11_wrongHere  hq4) (fun q9 hq9 => (PF.ite (fun _ => (PF.ret2 hq9)) (fun _ => PF.none))))) (fun _ => (PF.bnd (wf_X11_fills  hq4) (fun q7 hq7 => (wf_X11_parts_233 h_r_X11_items h_r_X11_parts h_r_X11_value ih hq7)))))) (fun _ => PF.none))) (fun _ => (wf_X11_parts_233 h_r_X11_items h_r_X11_parts h_r_X11_value ih hq4)))))))) (fun _ => PF.none))
theorem wf_X11_parts_85 {s : ST} {r_X11_items : Int32 → Int32 → Int32 → Int32 → ST → Option ((Int32 × ST) × Nat)} {r_X11_parts : Int32 → Int32 → Int32 → Int32 → ST → Option ((Int32 × ST) × Nat)} {r_X11_value : Int32 → Int32 → Int32 → Int32 → Int32 → ST → Option ((Int32 × ST) × Nat)} {σ : ST} (h_r_X11_items : ∀ (x1 : Int32) (x2 : Int32) (x3 : Int32) (x4 : Int32) (σ : ST), K27 s σ → PF st2 (K27 s) (r_X11_items x1 x2 x3 x4 σ)) (h_r_X11_parts : ∀ (x1 : Int32) (x2 : Int32) (x3 : Int32) (x4 : Int32) (σ : ST), K27 s σ → PF st2 (K27 s) (r_X11_parts x1 x2 x3 x4 σ)) (h_r_X11_value : ∀ (x1 : Int32) (x2 : Int32) (x3 : Int32) (x4 : Int32) (x5 : Int32) (σ : ST), K27 s σ → PF st2 (K27 s) (r_X11_value x1 x2 x3 x4 x5 σ))  (h : K27 s σ) : PF st2 (K27 s) (f_X11_parts_85 r_X11_items r_X11_parts r_X11_value σ) := by
  unfold f_X11_parts_85
  exact (PF.bnd (wf_X11_wrongHere  h) (fun q1 hq1 => (PF.ite (fun _ => (PF.ret2 hq1)) (fun _ => PF.none))))
theorem wf_X11_parts_139 {s : ST} {r_X11_items : Int32 → Int32 → Int32 → Int32 → ST → Option ((Int32 × ST) × Nat)} {r_X11_parts : Int32 → Int32 → Int32 → Int32 → ST → Option ((Int32 × ST) × Nat)} {r_X11_value : Int32 → Int32 → Int32 → Int32 → Int32 → ST → Option ((Int32 × ST) × Nat)} {k33 : Int32 → Int32 → Int32 → Int32 → Int32 → ST → Option ((Int32 × ST) × Nat)} {x1 : Int32} {x3 : Int32} {x4 : Int32} {x5 : Int32} {y0 : Int32} {σ : ST} (h_r_X11_items : ∀ (x1 : Int32) (x2 : Int32) (x3 : Int32) (x4 : Int32) (σ : ST), K27 s σ → PF st2 (K27 s) (r_X11_items x1 x2 x3 x4 σ)) (h_r_X11_parts : ∀ (x1 : Int32) (x2 : Int32) (x3 : Int32) (x4 : Int32) (σ : ST), K27 s σ → PF st2 (K27 s) (r_X11_parts x1 x2 x3 x4 σ)) (h_r_X11_value : ∀ (x1 : Int32) (x2 : Int32) (x3 : Int32) (x4 : Int32) (x5 : Int32) (σ : ST), K27 s σ → PF st2 (K27 s) (r_X11_value x1 x2 x3 x4 x5 σ)) (h_k33 : ∀ (x1 : Int32) (x2 : Int32) (x3 : Int32) (x4 : Int32) (x5 : Int32) (σ : ST), K27 s σ → PF st2 (K27 s) (k33 x1 x2 x3 x4 x5 σ))  (h : K27 s σ) : PF st2 (K27 s) (f_X11_parts_139 r_X11_items r_X11_parts r_X11_value k33 x1 x3 x4 x5 y0 σ) := by
  unfold f_X11_parts_139
  exact (PF.ite (fun _ => (h_k33 _ _ _ _ _ _ h)) (fun _ => (PF.bnd (wf_X11_go  h) (fun q1 hq1 => (h_k33 _ _ _ _ _ _ hq1)))))
theorem wf_X11_parts_33 {s : ST} {r_X11_items : Int32 → Int32 → Int32 → Int32 → ST → Option ((Int32 × ST) × Nat)} {r_X11_parts : Int32 → Int32 → Int32 → Int32 → ST → Option ((Int32 × ST) × Nat)} {r_X11_value : Int32 → Int32 → Int32 → Int32 → Int32 → ST → Option ((Int32 × ST) × Nat)} (h_r_X11_items : ∀ (x1 : Int32) (x2 : Int32) (x3 : Int32) (x4 : Int32) (σ : ST), K27 s σ → PF st2 (K27 s) (r_X11_items x1 x2 x3 x4 σ)) (h_r_X11_parts : ∀ (x1 : Int32) (x2 : Int32) (x3 : Int32) (x4 : Int32) (σ : ST), K27 s σ → PF st2 (K27 s) (r_X11_parts x1 x2 x3 x4 σ)) (h_r_X11_value : ∀ (x1 : Int32) (x2 : Int32) (x3 : Int32) (x4 : Int32) (x5 : Int32) (σ : ST), K27 s σ → PF st2 (K27 s) (r_X11_value x1 x2 x3 x4 x5 σ))  : ∀ (n : Nat) (x1 : Int32) (x2 : Int32) (x3 : Int32) (x4 : Int32) (x5 : Int32) (σ : ST), K27 s σ → PF st2 (K27 s) (f_X11_parts_33 r_X11_items r_X11_parts r_X11_value n x1 x2 x3 x4 x5 σ) := by
  intro n
  induction n with
  | zero => intro x1 x2 x3 x4 x5 σ h; rw [f_X11_parts_33]; exact PF.none
  | succ n ih =>
    intro x1 x2 x3 x4 x5 σ h
    rw [f_X11_parts_33]
    exact (PF.ite (fun _ => (PF.ite (fun _ => (wf_X11_parts_171 h_r_X11_items h_r_X11_parts h_r_X11_value _ _ _ _ _ h)) (fun _ => (PF.bnd (wf_X11_wrongHere  h) (fun q1 hq1 => (PF.ite (fun _ => (PF.ret2 hq1)) (fun _ => PF.none))))))) (fun _ => (PF.bnd (wf_X11_isName  h) (fun q3 hq3 => (PF.ac (PF.ite (fun _ => (PF.bnd (wf_X11_wrongHere  hq3) (fun q14 hq14 => (PF.ite (fun _ => (PF.ret2 hq14)) (fun _ => PF.none))))) (fun _ => (PF.bnd (wf_X11_fieldOf  hq3) (fun q5 hq5 => (PF.ite (fun _ => (wf_X11_parts_85 h_r_X11_items h_r_X11_parts h_r_X11_value hq5)) (fun _ => (PF.bnd (wf_X11_hasChild  hq5) (fun q7 hq7 => (PF.ite (fun _ => (PF.bnd (wf_X11_go  hq7) (fun q9 hq9 => (PF.ite (fun _ => (PF.bnd (h_r_X11_value _ _ _ _ _ _ hq9) (fun q12 hq12 => (PF.ac (PF.ite (fun _ => (PF.ret2 hq12)) (fun _ => (PF.ite (fun _ => (wf_X11_parts_139 h_r_X11_items h_r_X11_parts h_r_X11_value ih hq12)) (fun _ => (wf_X11_parts_139 h_r_X11_items h_r_X11_parts h_r_X11_value ih hq12))))))))) (fun _ => PF.none))))) (fun _ => (wf_X11_parts_85 h_r_X11_items h_r_X11_parts h_r_X11_value hq7))))))))))))))))
theorem wf_X11_parts_31 {s : ST} {r_X11_items : Int32 → Int32 → Int32 → Int32 → ST → Option ((Int32 × ST) × Nat)} {r_X11_parts : Int32 → Int32 → Int32 → Int32 → ST → Option ((Int32 × ST) × Nat)} {r_X11_value : Int32 → Int32 → Int32 → Int32 → Int32 → ST → Option ((Int32 × ST) × Nat)} {x1 : Int32} {x3 : Int32} {x4 : Int32} {x5 : Int32} {y0 : Int32} {σ : ST} (h_r_X11_items : ∀ (x1 : Int32) (x2 : Int32) (x3 : Int32) (x4 : Int32) (σ : ST), K27 s σ → PF st2 (K27 s) (r_X11_items x1 x2 x3 x4 σ)) (h_r_X11_parts : ∀ (x1 : Int32) (x2 : Int32) (x3 : Int32) (x4 : Int32) (σ : ST), K27 s σ → PF st2 (K27 s) (r_X11_parts x1 x2 x3 x4 σ)) (h_r_X11_value : ∀ (x1 : Int32) (x2 : Int32) (x3 : Int32) (x4 : Int32) (x5 : Int32) (σ : ST), K27 s σ → PF st2 (K27 s) (r_X11_value x1 x2 x3 x4 x5 σ))  (h : K27 s σ) : PF st2 (K27 s) (f_X11_parts_31 r_X11_items r_X11_parts r_X11_value x1 x3 x4 x5 y0 σ) := by
  unfold f_X11_parts_31
  exact (wf_X11_parts_33 h_r_X11_items h_r_X11_parts h_r_X11_value _ _ _ _ _ _ _ h)
theorem wf_X11_parts {s : ST} {r_X11_items : Int32 → Int32 → Int32 → Int32 → ST → Option ((Int32 × ST) × Nat)} {r_X11_parts : Int32 → Int32 → Int32 → Int32 → ST → Option ((Int32 × ST) × Nat)} {r_X11_value : Int32 → Int32 → Int32 → Int32 → Int32 → ST → Option ((Int32 × ST) × Nat)} {p0 : Int32} {p1 : Int32} {p2 : Int32} {p3 : Int32} {σ : ST} (h_r_X11_items : ∀ (x1 : Int32) (x2 : Int32) (x3 : Int32) (x4 : Int32) (σ : ST), K27 s σ → PF st2 (K27 s) (r_X11_items x1 x2 x3 x4 σ)) (h_r_X11_parts : ∀ (x1 : Int32) (x2 : Int32) (x3 : Int32) (x4 : Int32) (σ : ST), K27 s σ → PF st2 (K27 s) (r_X11_parts x1 x2 x3 x4 σ)) (h_r_X11_value : ∀ (x1 : Int32) (x2 : Int32) (x3 : Int32) (x4 : Int32) (x5 : Int32) (σ : ST), K27 s σ → PF st2 (K27 s) (r_X11_value x1 x2 x3 x4 x5 σ))  (h : K27 s σ) : PF st2 (K27 s) (f_X11_parts r_X11_items r_X11_parts r_X11_value p0 p1 p2 p3 σ) := by
  unfold f_X11_parts
  exact (PF.ite (fun _ => (PF.bnd (wf_X11_go  h) (fun q2 hq2 => (PF.ite (fun _ => (wf_X11_parts_31 h_r_X11_items h_r_X11_parts h_r_X11_value hq2)) (fun _ => (wf_X11_parts_31 h_r_X11_items h_r_X11_parts h_r_X11_value hq2)))))) (fun _ => PF.none))
theorem wf_X11_branchFor_2 {s : ST}    : ∀ (n : Nat) (x1 : Int32) (x2 : Int32) (σ : ST), K27 s σ → PF st2 (K27 s) (f_X11_branchFor_2  n x1 x2 σ) := by
  intro n
  induction n with
  | zero => intro x1 x2 σ h; rw [f_X11_branchFor_2]; exact PF.none
  | succ n ih =>
    intro x1 x2 σ h
    rw [f_X11_branchFor_2]
    exact (PF.ite (fun _ => (PF.ite (fun _ => (PF.ret2 h)) (fun _ => (PF.ite (fun _ => (PF.bnd (wf_X11_fits  h) (fun q3 hq3 => (PF.ac (PF.ite (fun _ => (ih _ _ _ hq3)) (fun _ => (PF.ret2 hq3))))))) (fun _ => PF.none))))) (fun _ => PF.none))
theorem wf_X11_branchFor {s : ST} {p0 : Int32} {σ : ST}   (h : K27 s σ) : PF st2 (K27 s) (f_X11_branchFor p0 σ) := by
  unfold f_X11_branchFor
  exact (wf_X11_branchFor_2  _ _ _ _ h)
theorem wf_X11_isValue_16 {s : ST}  {σ : ST}   (h : K27 s σ) : PF st2 (K27 s) (f_X11_isValue_16 σ) := by
  unfold f_X11_isValue_16
  exact (PF.ret2 h)
theorem wf_X11_isValue {s : ST}  {σ : ST}   (h : K27 s σ) : PF st2 (K27 s) (f_X11_isValue σ) := by
  unfold f_X11_isValue
  exact (PF.bnd (wf_X11_isLiteral  h) (fun q1 hq1 => (PF.ac (PF.ite (fun _ => (PF.ite (fun _ => (wf_X11_isValue_16  hq1)) (fun _ => (PF.ret2 hq1)))) (fun _ => (wf_X11_isValue_16  hq1))))))
theorem wf_X11_value_247 {s : ST} {r_X11_items : Int32 → Int32 → Int32 → Int32 → ST → Option ((Int32 × ST) × Nat)} {r_X11_parts : Int32 → Int32 → Int32 → Int32 → ST → Option ((Int32 × ST) × Nat)} {r_X11_value : Int32 → Int32 → Int32 → Int32 → Int32 → ST → Option ((Int32 × ST) × Nat)} {y0 : Int32} {y1 : Int32} {σ : ST} (h_r_X11_items : ∀ (x1 : Int32) (x2 : Int32) (x3 : Int32) (x4 : Int32) (σ : ST), K27 s σ → PF st2 (K27 s) (r_X11_items x1 x2 x3 x4 σ)) (h_r_X11_parts : ∀ (x1 : Int32) (x2 : Int32) (x3 : Int32) (x4 : Int32) (σ : ST), K27 s σ → PF st2 (K27 s) (r_X11_parts x1 x2 x3 x4 σ)) (h_r_X11_value : ∀ (x1 : Int32) (x2 : Int32) (x3 : Int32) (x4 : Int32) (x5 : Int32) (σ : ST), K27 s σ → PF st2 (K27 s) (r_X11_value x1 x2 x3 x4 x5 σ))  (h : K27 s σ) : PF st2 (K27 s) (f_X11_value_247 r_X11_items r_X11_parts r_X11_value y0 y1 σ) := by
  unfold f_X11_value_247
  exact (PF.ite (fun _ => (PF.bnd (wf_X11_go  (K27.i (by first | exact .inl (by decide) | exact .inr (.inl (by decide)) | exact .inr (.inr (by decide))) h)) (fun q2 hq2 => (PF.ret2 hq2)))) (fun _ => PF.none))
theorem wf_X11_value_221 {s : ST} {r_X11_items : Int32 → Int32 → Int32 → Int32 → ST → Option ((Int32 × ST) × Nat)} {r_X11_parts : Int32 → Int32 → Int32 → Int32 → ST → Option ((Int32 × ST) × Nat)} {r_X11_value : Int32 → Int32 → Int32 → Int32 → Int32 → ST → Option ((Int32 × ST) × Nat)} {x7 : Int32} {x9 : Int32} {y0 : Int64} {y1 : Int32} {σ : ST} (h_r_X11_items : ∀ (x1 : Int32) (x2 : Int32) (x3 : Int32) (x4 : Int32) (σ : ST), K27 s σ → PF st2 (K27 s) (r_X11_items x1 x2 x3 x4 σ)) (h_r_X11_parts : ∀ (x1 : Int32) (x2 : Int32) (x3 : Int32) (x4 : Int32) (σ : ST), K27 s σ → PF st2 (K27 s) (r_X11_parts x1 x2 x3 x4 σ)) (h_r_X11_value : ∀ (x1 : Int32) (x2 : Int32) (x3 : Int32) (x4 : Int32) (x5 : Int32) (σ : ST), K27 s σ → PF st2 (K27 s) (r_X11_value x1 x2 x3 x4 x5 σ))  (h : K27 s σ) : PF st2 (K27 s) (f_X11_value_221 r_X11_items r_X11_parts r_X11_value x7 x9 y0 y1 σ) := by
  unfold f_X11_value_221
  exact (PF.ite (fun _ => (PF.ite (fun _ => (PF.ite (fun _ => (wf_X11_value_247 h_r_X11_items h_r_X11_parts h_r_X11_value (K27.l h))) (fun _ => (wf_X11_value_247 h_r_X11_items h_r_X11_parts h_r_X11_value (K27.l h))))) (fun _ => PF.none))) (fun _ => PF.none))
theorem wf_X11_value_104 {s : ST} {r_X11_items : Int32 → Int32 → Int32 → Int32 → ST → Option ((Int32 × ST) × Nat)} {r_X11_parts : Int32 → Int32 → Int32 → Int32 → ST → Option ((Int32 × ST) × Nat)} {r_X11_value : Int32 → Int32 → Int32 → Int32 → Int32 → ST → Option ((Int32 × ST) × Nat)} {x1 : Int32} {x3 : Int32} {x4 : Int32} {x5 : Int32} {x6 : Int32} {x7 : Int32} {y0 : Int32} {σ : ST} (h_r_X11_items : ∀ (x1 : Int32) (x2 : Int32) (x3 : Int32) (x4 : Int32) (σ : ST), K27 s σ → PF st2 (K27 s) (r_X11_items x1 x2 x3 x4 σ)) (h_r_X11_parts : ∀ (x1 : Int32) (x2 : Int32) (x3 : Int32) (x4 : Int32) (σ : ST), K27 s σ → PF st2 (K27 s) (r_X11_parts x1 x2 x3 x4 σ)) (h_r_X11_value : ∀ (x1 : Int32) (x2 : Int32) (x3 : Int32) (x4 : Int32) (x5 : Int32) (σ : ST), K27 s σ → PF st2 (K27 s) (r_X11_value x1 x2 x3 x4 x5 σ))  (h : K27 s σ) : PF st2 (K27 s) (f_X11_value_104 r_X11_items r_X11_parts r_X11_value x1 x3 x4 x5 x6 x7 y0 σ) := by
  unfold f_X11_value_104
  exact (PF.ite (fun _ => (PF.ite (fun _ => (PF.bnd (wf_X11_laysNode  h) (fun q2 hq2 => (PF.ite (fun _ => (PF.bnd (h_r_X11_items _ _ _ _ _ hq2) (fun q9 hq9 => (PF.ac (PF.ite (fun _ => (PF.ret2 hq9)) (fun _ => PF.none)))))) (fun _ => (PF.ite (fun _ => (PF.bnd (h_r_X11_parts _ _ _ _ _ hq2) (fun q7 hq7 => (PF.ac (PF.ite (fun _ => (PF.ret2 hq7)) (fun _ => PF.none)))))) (fun _ => (PF.bnd (wf_X11_bitsOf  hq2) (fun q4 hq4 => (PF.ac (PF.ite (fun _ => (PF.ite (fun _ => (wf_X11_value_221 h_r_X11_items h_r_X11_parts h_r_X11_value (K27.l hq4))) (fun _ => (wf_X11_value_221 h_r_X11_items h_r_X11_parts h_r_X11_value (K27.l hq4))))) (fun _ => PF.none)))))))))))) (fun _ => PF.none))) (fun _ => (PF.bnd (wf_X11_wrongHere  h) (fun q11 hq11 => (PF.ite (fun _ => (PF.ret2 hq11)) (fun _ => PF.none))))))
theorem wf_X11_value_99 {s : ST} {r_X11_items : Int32 → Int32 → Int32 → Int32 → ST → Option ((Int32 × ST) × Nat)} {r_X11_parts : Int32 → Int32 → Int32 → Int32 → ST → Option ((Int32 × ST) × Nat)} {r_X11_value : Int32 → Int32 → Int32 → Int32 → Int32 → ST → Option ((Int32 × ST) × Nat)} {x1 : Int32} {x3 : Int32} {x4 : Int32} {x5 : Int32} {x6 : Int32} {x7 : Int32} {σ : ST} (h_r_X11_items : ∀ (x1 : Int32) (x2 : Int32) (x3 : Int32) (x4 : Int32) (σ : ST), K27 s σ → PF st2 (K27 s) (r_X11_items x1 x2 x3 x4 σ)) (h_r_X11_parts : ∀ (x1 : Int32) (x2 : Int32) (x3 : Int32) (x4 : Int32) (σ : ST), K27 s σ → PF st2 (K27 s) (r_X11_parts x1 x2 x3 x4 σ)) (h_r_X11_value : ∀ (x1 : Int32) (x2 : Int32) (x3 : Int32) (x4 : Int32) (x5 : Int32) (σ : ST), K27 s σ → PF st2 (K27 s) (r_X11_value x1 x2 x3 x4 x5 σ))  (h : K27 s σ) : PF st2 (K27 s) (f_X11_value_99 r_X11_items r_X11_parts r_X11_value x1 x3 x4 x5 x6 x7 σ) := by
  unfold f_X11_value_99
  exact (wf_X11_value_104 h_r_X11_items h_r_X11_parts h_r_X11_value h)
theorem wf_X11_value_103 {s : ST} {r_X11_items : Int32 → Int32 → Int32 → Int32 → ST → Option ((Int32 × ST) × Nat)} {r_X11_parts : Int32 → Int32 → Int32 → Int32 → ST → Option ((Int32 × ST) × Nat)} {r_X11_value : Int32 → Int32 → Int32 → Int32 → Int32 → ST → Option ((Int32 × ST) × Nat)} {x1 : Int32} {x3 : Int32} {x4 : Int32} {x5 : Int32} {x6 : Int32} {x7 : Int32} {σ : ST} (h_r_X11_items : ∀ (x1 : Int32) (x2 : Int32) (x3 : Int32) (x4 : Int32) (σ : ST), K27 s σ → PF st2 (K27 s) (r_X11_items x1 x2 x3 x4 σ)) (h_r_X11_parts : ∀ (x1 : Int32) (x2 : Int32) (x3 : Int32) (x4 : Int32) (σ : ST), K27 s σ → PF st2 (K27 s) (r_X11_parts x1 x2 x3 x4 σ)) (h_r_X11_value : ∀ (x1 : Int32) (x2 : Int32) (x3 : Int32) (x4 : Int32) (x5 : Int32) (σ : ST), K27 s σ → PF st2 (K27 s) (r_X11_value x1 x2 x3 x4 x5 σ))  (h : K27 s σ) : PF st2 (K27 s) (f_X11_value_103 r_X11_items r_X11_parts r_X11_value x1 x3 x4 x5 x6 x7 σ) := by
  unfold f_X11_value_103
  exact (wf_X11_value_104 h_r_X11_items h_r_X11_parts h_r_X11_value h)
theorem wf_X11_value_42 {s : ST} {r_X11_items : Int32 → Int32 → Int32 → Int32 → ST → Option ((Int32 × ST) × Nat)} {r_X11_parts : Int32 → Int32 → Int32 → Int32 → ST → Option ((Int32 × ST) × Nat)} {r_X11_value : Int32 → Int32 → Int32 → Int32 → Int32 → ST → Option ((Int32 × ST) × Nat)} {x1 : Int32} {x3 : Int32} {x4 : Int32} {x5 : Int32} {x6 : Int32} {y0 : Int32} {σ : ST} (h_r_X11_items : ∀ (x1 : Int32) (x2 : Int32) (x3 : Int32) (x4 : Int32) (σ : ST), K27 s σ → PF st2 (K27 s) (r_X11_items x1 x2 x3 x4 σ)) (h_r_X11_parts : ∀ (x1 : Int32) (x2 : Int32) (x3 : Int32) (x4 : Int32) (σ : ST), K27 s σ → PF st2 (K27 s) (r_X11_parts x1 x2 x3 x4 σ)) (h_r_X11_value : ∀ (x1 : Int32) (x2 : Int32) (x3 : Int32) (x4 : Int32) (x5 : Int32) (σ : ST), K27 s σ → PF st2 (K27 s) (r_X11_value x1 x2 x3 x4 x5 σ))  (h : K27 s σ) : PF st2 (K27 s) (f_X11_value_42 r_X11_items r_X11_parts r_X11_value x1 x3 x4 x5 x6 y0 σ) := by
  unfold f_X11_value_42
  exact (PF.bnd (wf_X11_isValue  h) (fun q1 hq1 => (PF.ac (PF.ite (fun _ => (wf_X11_value_104 h_r_X11_items h_r_X11_parts h_r_X11_value hq1)) (fun _ => (PF.bnd (wf_X11_fits  hq1) (fun q3 hq3 => (PF.ac (PF.ite (fun _ => (wf_X11_value_104 h_r_X11_items h_r_X11_parts h_r_X11_value hq3)) (fun _ => (PF.ite (fun _ => (wf_X11_value_99 h_r_X11_items h_r_X11_parts h_r_X11_value hq3)) (fun _ => (PF.ite (fun _ => (wf_X11_value_103 h_r_X11_items h_r_X11_parts h_r_X11_value hq3)) (fun _ => (PF.ite (fun _ => (wf_X11_value_103 h_r_X11_items h_r_X11_parts h_r_X11_value hq3)) (fun _ => (PF.ite (fun _ => (PF.ite (fun _ => (wf_X11_value_99 h_r_X11_items h_r_X11_parts h_r_X11_value hq3)) (fun _ => (wf_X11_value_103 h_r_X11_items h_r_X11_parts h_r_X11_value hq3)))) (fun _ => PF.none))))))))))))))))))
theorem wf_X11_value_20 {s : ST} {r_X11_items : Int32 → Int32 → Int32 → Int32 → ST → Option ((Int32 × ST) × Nat)} {r_X11_parts : Int32 → Int32 → Int32 → Int32 → ST → Option ((Int32 × ST) × Nat)} {r_X11_value : Int32 → Int32 → Int32 → Int32 → Int32 → ST → Option ((Int32 × ST) × Nat)} {x1 : Int32} {x2 : Int32} {x3 : Int32} {x4 : Int32} {x5 : Int32} {y0 : Int32} {σ : ST} (h_r_X11_items : ∀ (x1 : Int32) (x2 : Int32) (x3 : Int32) (x4 : Int32) (σ : ST), K27 s σ → PF st2 (K27 s) (r_X11_items x1 x2 x3 x4 σ)) (h_r_X11_parts : ∀ (x1 : Int32) (x2 : Int32) (x3 : Int32) (x4 : Int32) (σ : ST), K27 s σ → PF st2 (K27 s) (r_X11_parts x1 x2 x3 x4 σ)) (h_r_X11_value : ∀ (x1 : Int32) (x2 : Int32) (x3 : Int32) (x4 : Int32) (x5 : Int32) (σ : ST), K27 s σ → PF st2 (K27 s) (r_X11_value x1 x2 x3 x4 x5 σ))  (h : K27 s σ) : PF st2 (K27 s) (f_X11_value_20 r_X11_items r_X11_parts r_X11_value x1 x2 x3 x4 x5 y0 σ) := by
  unfold f_X11_value_20
  exact (PF.ite (fun _ => (PF.ite (fun _ => (wf_X11_value_42 h_r_X11_items h_r_X11_parts h_r_X11_value h)) (fun _ => PF.none))) (fun _ => (wf_X11_value_42 h_r_X11_items h_r_X11_parts h_r_X11_value h)))
theorem wf_X11_value {s : ST} {r_X11_items : Int32 → Int32 → Int32 → Int32 → ST → Option ((Int32 × ST) × Nat)} {r_X11_parts : Int32 → Int32 → Int32 → Int32 → ST → Option ((Int32 × ST) × Nat)} {r_X11_value : Int32 → Int32 → Int32 → Int32 → Int32 → ST → Option ((Int32 × ST) × Nat)} {p0 : Int32} {p1 : Int32} {p2 : Int32} {p3 : Int32} {p4 : Int32} {σ : ST} (h_r_X11_items : ∀ (x1 : Int32) (x2 : Int32) (x3 : Int32) (x4 : Int32) (σ : ST), K27 s σ → PF st2 (K27 s) (r_X11_items x1 x2 x3 x4 σ)) (h_r_X11_parts : ∀ (x1 : Int32) (x2 : Int32) (x3 : Int32) (x4 : Int32) (σ : ST), K27 s σ → PF st2 (K27 s) (r_X11_parts x1 x2 x3 x4 σ)) (h_r_X11_value : ∀ (x1 : Int32) (x2 : Int32) (x3 : Int32) (x4 : Int32) (x5 : Int32) (σ : ST), K27 s σ → PF st2 (K27 s) (r_X11_value x1 x2 x3 x4 x5 σ))  (h : K27 s σ) : PF st2 (K27 s) (f_X11_value r_X11_items r_X11_parts r_X11_value p0 p1 p2 p3 p4 σ) := by
  unfold f_X11_value
  exact (PF.ite (fun _ => (PF.ite (fun _ => (PF.bnd (wf_X11_branchFor  h) (fun q2 hq2 => (PF.ac (wf_X11_value_20 h_r_X11_items h_r_X11_parts h_r_X11_value hq2))))) (fun _ => (wf_X11_value_20 h_r_X11_items h_r_X11_parts h_r_X11_value h)))) (fun _ => PF.none))
theorem wfR_X11_items {s : ST} : ∀ n : Nat, (∀ (p0 : Int32) (p1 : Int32) (p2 : Int32) (p3 : Int32) (σ : ST), K27 s σ → PF st2 (K27 s) ((R_X11_items n).1 p0 p1 p2 p3 σ)) ∧ (∀ (p0 : Int32) (p1 : Int32) (p2 : Int32) (p3 : Int32) (σ : ST), K27 s σ → PF st2 (K27 s) ((R_X11_items n).2.1 p0 p1 p2 p3 σ)) ∧ (∀ (p0 : Int32) (p1 : Int32) (p2 : Int32) (p3 : Int32) (p4 : Int32) (σ : ST), K27 s σ → PF st2 (K27 s) ((R_X11_items n).2.2 p0 p1 p2 p3 p4 σ)) := by
  intro n
  induction n with
  | zero => exact ⟨fun _ _ _ _ _ _ => PF.none, fun _ _ _ _ _ _ => PF.none, fun _ _ _ _ _ _ _ => PF.none⟩
  | succ n ih => exact ⟨fun _ _ _ _ _ h => wf_X11_items (ih.1) (ih.2.1) (ih.2.2)  h, fun _ _ _ _ _ h => wf_X11_parts (ih.1) (ih.2.1) (ih.2.2)  h, fun _ _ _ _ _ _ h => wf_X11_value (ih.1) (ih.2.1) (ih.2.2)  h⟩
theorem wf_T_X11_value {s : ST} {p0 : Int32} {p1 : Int32} {p2 : Int32} {p3 : Int32} {p4 : Int32} {σ : ST} (h : K27 s σ) : PF st2 (K27 s) (f_T_X11_value p0 p1 p2 p3 p4 σ) := (wfR_X11_items FRB).2.2 _ _ _ _ _ _  h
theorem wf_X11_write_129 {s : ST} {x4 : Int32} {σ : ST}   (h : K27 s σ) : PF st2 (K27 s) (f_X11_write_129 x4 σ) := by
  unfold f_X11_write_129
  exact (PF.ite (fun _ => (PF.ret2 h)) (fun _ => (PF.ret2 h)))
theorem wf_X11_becomes_19 {s : ST}    : ∀ (n : Nat) (x1 : Int32) (x2 : Int32) (σ : ST), K27 s σ → PF st0 (K27 s) (f_X11_becomes_19  n x1 x2 σ) := by
  intro n
  induction n with
  | zero => intro x1 x2 σ h; rw [f_X11_becomes_19]; exact PF.none
  | succ n ih =>
    intro x1 x2 σ h
    rw [f_X11_becomes_19]
    exact (PF.ite (fun _ => (PF.ret0 h)) (fun _ => (PF.ite (fun _ => (PF.ite (fun _ => (ih _ _ _ (K27.i (by first | exact .inl (by decide) | exact .inr (.inl (by decide)) | exact .inr (.inr (by decide))) h))) (fun _ => PF.none))) (fun _ => PF.none))))
theorem wf_X11_becomes {s : ST} {p0 : Int32} {p1 : Int32} {σ : ST}   (h : K27 s σ) : PF st0 (K27 s) (f_X11_becomes p0 p1 σ) := by
  unfold f_X11_becomes
  exact (PF.ite (fun _ => (PF.bnd (PF.ret0 (K27.i (by first | exact .inl (by decide) | exact .inr (.inl (by decide)) | exact .inr (.inr (by decide))) (K27.i (by first | exact .inl (by decide) | exact .inr (.inl (by decide)) | exact .inr (.inr (by decide))) h))) (fun z2 hz2 => (wf_X11_becomes_19  _ _ _ _ hz2)))) (fun _ => PF.none))
theorem wf_X11_write_118 {s : ST} {x1 : Int32} {x2 : Int32} {x4 : Int32} {σ : ST}   (h : K27 s σ) : PF st2 (K27 s) (f_X11_write_118 x1 x2 x4 σ) := by
  unfold f_X11_write_118
  exact (PF.ite (fun _ => (wf_X11_write_129  h)) (fun _ => (PF.bnd (wf_X11_becomes  h) (fun q1 hq1 => (wf_X11_write_129  hq1)))))
theorem wf_X11_writesByte {s : ST} {p0 : Int64} {σ : ST}   (h : K27 s σ) : PF st0 (K27 s) (f_X11_writesByte p0 σ) := by
  unfold f_X11_writesByte
  exact (PF.ite (fun _ => (PF.ret0 (K27.i (by first | exact .inl (by decide) | exact .inr (.inl (by decide)) | exact .inr (.inr (by decide))) h))) (fun _ => (PF.ite (fun _ => (PF.bnd (PF.ret0 (K27.i (by first | exact .inl (by decide) | exact .inr (.inl (by decide)) | exact .inr (.inr (by decide))) (K27.i (by first | exact .inl (by decide) | exact .inr (.inl (by decide)) | exact .inr (.inr (by decide))) h))) (fun z2 hz2 => (PF.ret0 hz2)))) (fun _ => PF.none))))
theorem wf_X11_writesNumber_9 {s : ST}    : ∀ (n : Nat) (x1 : Int64) (σ : ST), K27 s σ → PF st0 (K27 s) (f_X11_writesNumber_9  n x1 σ) := by
  intro n
  induction n with
  | zero => intro x1 σ h; rw [f_X11_writesNumber_9]; exact PF.none
  | succ n ih =>
    intro x1 σ h
    rw [f_X11_writesNumber_9]
    exact (PF.ite (fun _ => (PF.bnd (wf_X11_writesByte  h) (fun q1 hq1 => (PF.ret0 hq1)))) (fun _ => (PF.bnd (wf_X11_writesByte  h) (fun q3 hq3 => (PF.val (ih _ _ hq3))))))
theorem wf_X11_writesNumber {s : ST} {p0 : Int64} {σ : ST}   (h : K27 s σ) : PF st0 (K27 s) (f_X11_writesNumber p0 σ) := by
  unfold f_X11_writesNumber
  exact (PF.val (wf_X11_writesNumber_9  _ _ _ h))
theorem wf_X11_writes_89 {s : ST} {r_X11_writes : Int32 → ST → Option (ST)} (h_r_X11_writes : ∀ (x1 : Int32) (σ : ST), K27 s σ → PF st0 (K27 s) (r_X11_writes x1 σ))  : ∀ (n : Nat) (x1 : Int32) (x2 : Int32) (σ : ST), K27 s σ → PF st0 (K27 s) (f_X11_writes_89 r_X11_writes n x1 x2 σ) := by
  intro n
  induction n with
  | zero => intro x1 x2 σ h; rw [f_X11_writes_89]; exact PF.none
  | succ n ih =>
    intro x1 x2 σ h
    rw [f_X11_writes_89]
    exact (PF.ite (fun _ => (PF.ret0 h)) (fun _ => (PF.ite (fun _ => (PF.bnd (wf_X11_writesByte  h) (fun q2 hq2 => (ih _ _ _ hq2)))) (fun _ => PF.none))))
theorem wf_X11_writesText_87 {s : ST} {k42 : Int32 → Int64 → Int32 → ST → Option (ST)} {x1 : Int32} {x4 : Int32} {y0 : Int64} {y1 : Int64} {σ : ST} (h_k42 : ∀ (x1 : Int32) (x2 : Int64) (x3 : Int32) (σ : ST), K27 s σ → PF st0 (K27 s) (k42 x1 x2 x3 σ))  (h : K27 s σ) : PF st0 (K27 s) (f_X11_writesText_87 k42 x1 x4 y0 y1 σ) := by
  unfold f_X11_writesText_87
  exact (PF.ite (fun _ => (h_k42 _ _ _ _ h)) (fun _ => PF.none))
theorem wf_X11_writesText_42 {s : ST}    : ∀ (n : Nat) (x1 : Int32) (x2 : Int64) (x3 : Int32) (σ : ST), K27 s σ → PF st0 (K27 s) (f_X11_writesText_42  n x1 x2 x3 σ) := by
  intro n
  induction n with
  | zero => intro x1 x2 x3 σ h; rw [f_X11_writesText_42]; exact PF.none
  | succ n ih =>
    intro x1 x2 x3 σ h
    rw [f_X11_writesText_42]
    exact (PF.ite (fun _ => (PF.ite (fun _ => (PF.ret0 h)) (fun _ => (PF.ite (fun _ => (PF.bnd (wf_X11_writesByte  h) (fun q3 hq3 => (PF.ite (fun _ => (wf_X11_writesText_87 ih hq3)) (fun _ => (wf_X11_writesText_87 ih hq3)))))) (fun _ => PF.none))))) (fun _ => PF.none))
theorem wf_X11_writesText_16 {s : ST}    : ∀ (n : Nat) (x1 : Int32) (x2 : Int64) (x3 : Int32) (σ : ST), K27 s σ → PF st0 (K27 s) (f_X11_writesText_16  n x1 x2 x3 σ) := by
  intro n
  induction n with
  | zero => intro x1 x2 x3 σ h; rw [f_X11_writesText_16]; exact PF.none
  | succ n ih =>
    intro x1 x2 x3 σ h
    rw [f_X11_writesText_16]
    exact (PF.ite (fun _ => (PF.ite (fun _ => (wf_X11_writesText_42  _ _ _ _ _ h)) (fun _ => (ih _ _ _ _ h)))) (fun _ => PF.none))
theorem wf_X11_writesText {s : ST} {p0 : Int32} {σ : ST}   (h : K27 s σ) : PF st0 (K27 s) (f_X11_writesText p0 σ) := by
  unfold f_X11_writesText
  exact (PF.ite (fun _ => (PF.bnd (wf_X11_writesNumber  h) (fun q2 hq2 => (wf_X11_writesText_16  _ _ _ _ _ hq2)))) (fun _ => PF.none))
theorem wf_X11_writes_155 {s : ST} {r_X11_writes : Int32 → ST → Option (ST)} (h_r_X11_writes : ∀ (x1 : Int32) (σ : ST), K27 s σ → PF st0 (K27 s) (r_X11_writes x1 σ))  : ∀ (n : Nat) (x1 : Int32) (σ : ST), K27 s σ → PF st0 (K27 s) (f_X11_writes_155 r_X11_writes n x1 σ) := by
  intro n
  induction n with
  | zero => intro x1 σ h; rw [f_X11_writes_155]; exact PF.none
  | succ n ih =>
    intro x1 σ h
    rw [f_X11_writes_155]
    exact (PF.ite (fun _ => (PF.ret0 h)) (fun _ => (PF.ite (fun _ => (PF.bnd (h_r_X11_writes _ _ h) (fun q1 hq1 => (PF.ite (fun _ => (ih _ _ hq1)) (fun _ => PF.none))))) (fun _ => (PF.ret0 h)))))
theorem wf_X11_writes_148 {s : ST} {r_X11_writes : Int32 → ST → Option (ST)} {x1 : Int32} {σ : ST} (h_r_X11_writes : ∀ (x1 : Int32) (σ : ST), K27 s σ → PF st0 (K27 s) (r_X11_writes x1 σ))  (h : K27 s σ) : PF st0 (K27 s) (f_X11_writes_148 r_X11_writes x1 σ) := by
  unfold f_X11_writes_148
  exact (PF.ite (fun _ => (wf_X11_writes_155 h_r_X11_writes _ _ _ h)) (fun _ => PF.none))
theorem wf_X11_writes_20 {s : ST} {r_X11_writes : Int32 → ST → Option (ST)} {x1 : Int32} {σ : ST} (h_r_X11_writes : ∀ (x1 : Int32) (σ : ST), K27 s σ → PF st0 (K27 s) (r_X11_writes x1 σ))  (h : K27 s σ) : PF st0 (K27 s) (f_X11_writes_20 r_X11_writes x1 σ) := by
  unfold f_X11_writes_20
  exact (PF.ite (fun _ => (PF.ite (fun _ => (PF.bnd (wf_X11_writesByte  h) (fun q7 hq7 => (PF.ret0 hq7)))) (fun _ => (PF.ite (fun _ => (PF.bnd (wf_X11_writesNumber  h) (fun q9 hq9 => (PF.ret0 hq9)))) (fun _ => (PF.ite (fun _ => (PF.bnd (wf_X11_writesNumber  h) (fun q11 hq11 => (PF.ret0 hq11)))) (fun _ => (PF.ite (fun _ => (wf_X11_writes_89 h_r_X11_writes _ _ _ _ h)) (fun _ => (PF.ite (fun _ => (PF.bnd (wf_X11_writesText  h) (fun q13 hq13 => (PF.ret0 hq13)))) (fun _ => (PF.ite (fun _ => (PF.bnd (wf_X11_writesNumber  h) (fun q15 hq15 => (wf_X11_writes_148 h_r_X11_writes hq15)))) (fun _ => (wf_X11_writes_148 h_r_X11_writes h)))))))))))))) (fun _ => PF.none))
theorem wf_X11_writes {s : ST} {r_X11_writes : Int32 → ST → Option (ST)} {p0 : Int32} {σ : ST} (h_r_X11_writes : ∀ (x1 : Int32) (σ : ST), K27 s σ → PF st0 (K27 s) (r_X11_writes x1 σ))  (h : K27 s σ) : PF st0 (K27 s) (f_X11_writes r_X11_writes p0 σ) := by
  unfold f_X11_writes
  exact (PF.ite (fun _ => (PF.ite (fun _ => (wf_X11_writes_20 h_r_X11_writes h)) (fun _ => (PF.bnd (wf_X11_writesNumber  h) (fun q2 hq2 => (wf_X11_writes_20 h_r_X11_writes hq2)))))) (fun _ => PF.none))
theorem wfR_X11_writes {s : ST} : ∀ n : Nat, (∀ (p0 : Int32) (σ : ST), K27 s σ → PF st0 (K27 s) ((R_X11_writes n) p0 σ)) := by
  intro n
  induction n with
  | zero => exact fun _ _ _ => PF.none
  | succ n ih => exact fun _ _ h => wf_X11_writes ih  h
theorem wf_T_X11_writes {s : ST} {p0 : Int32} {σ : ST} (h : K27 s σ) : PF st0 (K27 s) (f_T_X11_writes p0 σ) := (wfR_X11_writes FRB) _ _  h
theorem wf_X11_writesTree {s : ST} {p0 : Int32} {σ : ST}   (h : K27 s σ) : PF st0 (K27 s) (f_X11_writesTree p0 σ) := by
  unfold f_X11_writesTree
  exact (PF.bnd (wf_T_X11_writes (K27.i (by first | exact .inl (by decide) | exact .inr (.inl (by decide)) | exact .inr (.inr (by decide))) (K27.i (by first | exact .inl (by decide) | exact .inr (.inl (by decide)) | exact .inr (.inr (by decide))) h))) (fun q1 hq1 => (PF.ret0 hq1)))
theorem wf_X11_write_116 {s : ST} {x1 : Int32} {x2 : Int32} {y0 : Int32} {σ : ST}   (h : K27 s σ) : PF st2 (K27 s) (f_X11_write_116 x1 x2 y0 σ) := by
  unfold f_X11_write_116
  exact (wf_X11_write_118  h)
theorem wf_X11_write_111 {s : ST} {x1 : Int32} {x2 : Int32} {σ : ST}   (h : K27 s σ) : PF st2 (K27 s) (f_X11_write_111 x1 x2 σ) := by
  unfold f_X11_write_111
  exact (wf_X11_write_116  h)
theorem wf_X11_write_84 {s : ST} {x1 : Int32} {x2 : Int32} {x3 : Int32} {x4 : Int32} {σ : ST}   (h : K27 s σ) : PF st2 (K27 s) (f_X11_write_84 x1 x2 x3 x4 σ) := by
  unfold f_X11_write_84
  exact (PF.ite (fun _ => (wf_X11_write_118  h)) (fun _ => (PF.bnd (wf_X11_writesTree  h) (fun q1 hq1 => (PF.ite (fun _ => (wf_X11_write_111  hq1)) (fun _ => (PF.bnd (wf_X11_wrong  hq1) (fun q3 hq3 => (PF.ite (fun _ => (wf_X11_write_116  hq3)) (fun _ => (wf_X11_write_111  hq3)))))))))))
theorem wf_X11_write {s : ST} {p0 : Int32} {p1 : Int32} {p2 : Int32} {σ : ST}   (h : K27 s σ) : PF st2 (K27 s) (f_X11_write p0 p1 p2 σ) := by
  unfold f_X11_write
  exact (PF.bnd (wf_X11_within  (K27.i (by first | exact .inl (by decide) | exact .inr (.inl (by decide)) | exact .inr (.inr (by decide))) h)) (fun q1 hq1 => (PF.ite (fun _ => (PF.ret2 hq1)) (fun _ => (PF.bnd (wf_X11_isPlanAt  hq1) (fun q3 hq3 => (PF.ite (fun _ => (PF.ret2 hq3)) (fun _ => (PF.bnd (wf_X11_within  hq3) (fun q5 hq5 => (PF.ite (fun _ => (PF.ret2 hq5)) (fun _ => (PF.bnd (wf_X11_begins  hq5) (fun q7 hq7 => (PF.bnd (wf_X11_rootType (K27.i (by first | exact .inl (by decide) | exact .inr (.inl (by decide)) | exact .inr (.inr (by decide))) hq7)) (fun q9 hq9 => (PF.bnd (wf_T_X11_value hq9) (fun q11 hq11 => (PF.ac (PF.ite (fun _ => (wf_X11_write_84  hq11)) (fun _ => (PF.ite (fun _ => (wf_X11_write_84  hq11)) (fun _ => (PF.bnd (wf_X11_wrongHere  hq11) (fun q13 hq13 => (wf_X11_write_84  hq13))))))))))))))))))))))))))
theorem wf_X11_isMessage {s : ST} {p0 : Int32} {σ : ST}   (h : K27 s σ) : PF st1 (K27 s) (f_X11_isMessage p0 σ) := by
  unfold f_X11_isMessage
  exact (PF.bnd (wf_X11_within  h) (fun q1 hq1 => (PF.ite (fun _ => (PF.ret1 hq1)) (fun _ => (PF.ite (fun _ => (PF.ite (fun _ => (PF.ret1 hq1)) (fun _ => (PF.ret1 hq1)))) (fun _ => PF.none))))))
theorem wf_X11_uses_105 {s : ST}    : ∀ (n : Nat) (x1 : Int32) (x2 : Int32) (σ : ST), K27 s σ → PF st0 (K27 s) (f_X11_uses_105  n x1 x2 σ) := by
  intro n
  induction n with
  | zero => intro x1 x2 σ h; rw [f_X11_uses_105]; exact PF.none
  | succ n ih =>
    intro x1 x2 σ h
    rw [f_X11_uses_105]
    exact (PF.ite (fun _ => (PF.ret0 (K27.i (by first | exact .inl (by decide) | exact .inr (.inl (by decide)) | exact .inr (.inr (by decide))) h))) (fun _ => (PF.ite (fun _ => (PF.ite (fun _ => (ih _ _ _ (K27.i (by first | exact .inl (by decide) | exact .inr (.inl (by decide)) | exact .inr (.inr (by decide))) h))) (fun _ => PF.none))) (fun _ => PF.none))))
theorem wf_X11_uses_103 {s : ST} {x1 : Int32} {x2 : Int32} {σ : ST}   (h : K27 s σ) : PF st0 (K27 s) (f_X11_uses_103 x1 x2 σ) := by
  unfold f_X11_uses_103
  exact (wf_X11_uses_105  _ _ _ _ h)
theorem wf_X11_uses_93 {s : ST} {x1 : Int32} {y0 : Int32} {σ : ST}   (h : K27 s σ) : PF st0 (K27 s) (f_X11_uses_93 x1 y0 σ) := by
  unfold f_X11_uses_93
  exact (wf_X11_uses_103  (K27.i (by first | exact .inl (by decide) | exact .inr (.inl (by decide)) | exact .inr (.inr (by decide))) h))
theorem wf_X11_uses_66 {s : ST} {x1 : Int32} {x2 : Int32} {y0 : Int32} {y1 : Int32} {σ : ST}   (h : K27 s σ) : PF st0 (K27 s) (f_X11_uses_66 x1 x2 y0 y1 σ) := by
  unfold f_X11_uses_66
  exact (PF.ite (fun _ => (wf_X11_uses_103  (K27.i (by first | exact .inl (by decide) | exact .inr (.inl (by decide)) | exact .inr (.inr (by decide))) h))) (fun _ => (PF.ite (fun _ => (wf_X11_uses_93  (K27.i (by first | exact .inl (by decide) | exact .inr (.inl (by decide)) | exact .inr (.inr (by decide))) h))) (fun _ => (wf_X11_uses_93  (K27.i (by first | exact .inl (by decide) | exact .inr (.inl (by decide)) | exact .inr (.inr (by decide))) h))))))
theorem wf_X11_uses_48 {s : ST} {x1 : Int32} {x2 : Int32} {y0 : Int32} {y1 : Int32} {σ : ST}   (h : K27 s σ) : PF st0 (K27 s) (f_X11_uses_48 x1 x2 y0 y1 σ) := by
  unfold f_X11_uses_48
  exact (PF.ite (fun _ => (wf_X11_uses_66  (K27.i (by first | exact .inl (by decide) | exact .inr (.inl (by decide)) | exact .inr (.inr (by decide))) h))) (fun _ => (wf_X11_uses_66  (K27.i (by first | exact .inl (by decide) | exact .inr (.inl (by decide)) | exact .inr (.inr (by decide))) h))))
theorem wf_X11_uses_27 {s : ST} {k4 : Int32 → Int32 → Int32 → ST → Option (ST)} {x1 : Int32} {x3 : Int32} {y0 : Int32} {σ : ST} (h_k4 : ∀ (x1 : Int32) (x2 : Int32) (x3 : Int32) (σ : ST), K27 s σ → PF st0 (K27 s) (k4 x1 x2 x3 σ))  (h : K27 s σ) : PF st0 (K27 s) (f_X11_uses_27 k4 x1 x3 y0 σ) := by
  unfold f_X11_uses_27
  exact (h_k4 _ _ _ _ h)
theorem wf_X11_uses_4 {s : ST}    : ∀ (n : Nat) (x1 : Int32) (x2 : Int32) (x3 : Int32) (σ : ST), K27 s σ → PF st0 (K27 s) (f_X11_uses_4  n x1 x2 x3 σ) := by
  intro n
  induction n with
  | zero => intro x1 x2 x3 σ h; rw [f_X11_uses_4]; exact PF.none
  | succ n ih =>
    intro x1 x2 x3 σ h
    rw [f_X11_uses_4]
    exact (PF.ite (fun _ => (PF.ite (fun _ => (wf_X11_uses_48  h)) (fun _ => (wf_X11_uses_48  h)))) (fun _ => (PF.ite (fun _ => (PF.ite (fun _ => (wf_X11_uses_27 ih h)) (fun _ => (wf_X11_uses_27 ih h)))) (fun _ => PF.none))))
theorem wf_X11_uses {s : ST} {p0 : Int32} {σ : ST}   (h : K27 s σ) : PF st0 (K27 s) (f_X11_uses p0 σ) := by
  unfold f_X11_uses
  exact (wf_X11_uses_4  _ _ _ _ _ h)
theorem wf_X11_laysPairs_116 {s : ST} {k63 : Int32 → ST → Option (ST)} {k72 : Int32 → Int32 → ST → Option (ST)} {x3 : Int32} {x4 : Int32} {σ : ST} (h_k63 : ∀ (x1 : Int32) (σ : ST), K27 s σ → PF st0 (K27 s) (k63 x1 σ)) (h_k72 : ∀ (x1 : Int32) (x2 : Int32) (σ : ST), K27 s σ → PF st0 (K27 s) (k72 x1 x2 σ))  (h : K27 s σ) : PF st0 (K27 s) (f_X11_laysPairs_116 k63 k72 x3 x4 σ) := by
  unfold f_X11_laysPairs_116
  exact (h_k72 _ _ _ h)
theorem wf_X11_namesMay_40 {s : ST}  {σ : ST}   (h : K27 s σ) : PF st1 (K27 s) (f_X11_namesMay_40 σ) := by
  unfold f_X11_namesMay_40
  exact (PF.ret1 h)
theorem wf_X11_namesMay_8 {s : ST} {x1 : Int32} {x2 : Int32} {σ : ST}   (h : K27 s σ) : PF st1 (K27 s) (f_X11_namesMay_8 x1 x2 σ) := by
  unfold f_X11_namesMay_8
  exact (PF.ite (fun _ => (PF.ite (fun _ => (PF.ite (fun _ => (wf_X11_namesMay_40  h)) (fun _ => (PF.ret1 h)))) (fun _ => PF.none))) (fun _ => PF.none))
theorem wf_X11_namesMay {s : ST} {p0 : Int32} {p1 : Int32} {σ : ST}   (h : K27 s σ) : PF st1 (K27 s) (f_X11_namesMay p0 p1 σ) := by
  unfold f_X11_namesMay
  exact (PF.ite (fun _ => (PF.ite (fun _ => (wf_X11_namesMay_40  h)) (fun _ => (wf_X11_namesMay_8  h)))) (fun _ => (wf_X11_namesMay_8  h)))
theorem wf_X11_fieldFor {s : ST} {p0 : Int32} {p1 : Int32} {σ : ST}   (h : K27 s σ) : PF st1 (K27 s) (f_X11_fieldFor p0 p1 σ) := by
  unfold f_X11_fieldFor
  exact (PF.ite (fun _ => (PF.bnd (wf_X11_fieldOf  h) (fun q2 hq2 => (PF.ite (fun _ => (PF.ret1 hq2)) (fun _ => (PF.ite (fun _ => (PF.ret1 hq2)) (fun _ => (PF.bnd (wf_X11_fieldOf  hq2) (fun q4 hq4 => (PF.ret1 hq4)))))))))) (fun _ => PF.none))
theorem wf_X11_chosen_69 {s : ST} {r_X11_chosen : Int32 → Int32 → ST → Option (Int32 × ST)} {r_X11_match : Int32 → Int32 → ST → Option (Int32 × ST)} {k5 : Int32 → Int32 → Int32 → Int32 → ST → Option (Int32 × ST)} {x1 : Int32} {x2 : Int32} {x3 : Int32} {x4 : Int32} {σ : ST} (h_r_X11_chosen : ∀ (x1 : Int32) (x2 : Int32) (σ : ST), K27 s σ → PF st1 (K27 s) (r_X11_chosen x1 x2 σ)) (h_r_X11_match : ∀ (x1 : Int32) (x2 : Int32) (σ : ST), K27 s σ → PF st1 (K27 s) (r_X11_match x1 x2 σ)) (h_k5 : ∀ (x1 : Int32) (x2 : Int32) (x3 : Int32) (x4 : Int32) (σ : ST), K27 s σ → PF st1 (K27 s) (k5 x1 x2 x3 x4 σ))  (h : K27 s σ) : PF st1 (K27 s) (f_X11_chosen_69 r_X11_chosen r_X11_match k5 x1 x2 x3 x4 σ) := by
  unfold f_X11_chosen_69
  exact (h_k5 _ _ _ _ _ h)
theorem wf_X11_chosen_68 {s : ST} {r_X11_chosen : Int32 → Int32 → ST → Option (Int32 × ST)} {r_X11_match : Int32 → Int32 → ST → Option (Int32 × ST)} {k5 : Int32 → Int32 → Int32 → Int32 → ST → Option (Int32 × ST)} {x1 : Int32} {x2 : Int32} {x4 : Int32} {y0 : Int32} {σ : ST} (h_r_X11_chosen : ∀ (x1 : Int32) (x2 : Int32) (σ : ST), K27 s σ → PF st1 (K27 s) (r_X11_chosen x1 x2 σ)) (h_r_X11_match : ∀ (x1 : Int32) (x2 : Int32) (σ : ST), K27 s σ → PF st1 (K27 s) (r_X11_match x1 x2 σ)) (h_k5 : ∀ (x1 : Int32) (x2 : Int32) (x3 : Int32) (x4 : Int32) (σ : ST), K27 s σ → PF st1 (K27 s) (k5 x1 x2 x3 x4 σ))  (h : K27 s σ) : PF st1 (K27 s) (f_X11_chosen_68 r_X11_chosen r_X11_match k5 x1 x2 x4 y0 σ) := by
  unfold f_X11_chosen_68
  exact (wf_X11_chosen_69 h_r_X11_chosen h_r_X11_match h_k5 h)
theorem wf_X11_chosen_5 {s : ST} {r_X11_chosen : Int32 → Int32 → ST → Option (Int32 × ST)} {r_X11_match : Int32 → Int32 → ST → Option (Int32 × ST)} (h_r_X11_chosen : ∀ (x1 : Int32) (x2 : Int32) (σ : ST), K27 s σ → PF st1 (K27 s) (r_X11_chosen x1 x2 σ)) (h_r_X11_match : ∀ (x1 : Int32) (x2 : Int32) (σ : ST), K27 s σ → PF st1 (K27 s) (r_X11_match x1 x2 σ))  : ∀ (n : Nat) (x1 : Int32) (x2 : Int32) (x3 : Int32) (x4 : Int32) (σ : ST), K27 s σ → PF st1 (K27 s) (f_X11_chosen_5 r_X11_chosen r_X11_match n x1 x2 x3 x4 σ) := by
  intro n
  induction n with
  | zero => intro x1 x2 x3 x4 σ h; rw [f_X11_chosen_5]; exact PF.none
  | succ n ih =>
    intro x1 x2 x3 x4 σ h
    rw [f_X11_chosen_5]
    exact (PF.ite (fun _ => (PF.ite (fun _ => (PF.ret1 h)) (fun _ => (PF.ite (fun _ => (PF.bnd (h_r_X11_match _ _ _ h) (fun q3 hq3 => (PF.ite (fun _ => (wf_X11_chosen_69 h_r_X11_chosen h_r_X11_match ih hq3)) (fun _ => (PF.ite (fun _ => (PF.ite (fun _ => (PF.ite (fun _ => (PF.ret1 hq3)) (fun _ => (PF.ite (fun _ => (wf_X11_chosen_68 h_r_X11_chosen h_r_X11_match ih hq3)) (fun _ => (wf_X11_chosen_68 h_r_X11_chosen h_r_X11_match ih hq3)))))) (fun _ => PF.none))) (fun _ => PF.none))))))) (fun _ => PF.none))))) (fun _ => PF.none))
theorem wf_X11_chosen {s : ST} {r_X11_chosen : Int32 → Int32 → ST → Option (Int32 × ST)} {r_X11_match : Int32 → Int32 → ST → Option (Int32 × ST)} {p0 : Int32} {p1 : Int32} {σ : ST} (h_r_X11_chosen : ∀ (x1 : Int32) (x2 : Int32) (σ : ST), K27 s σ → PF st1 (K27 s) (r_X11_chosen x1 x2 σ)) (h_r_X11_match : ∀ (x1 : Int32) (x2 : Int32) (σ : ST), K27 s σ → PF st1 (K27 s) (r_X11_match x1 x2 σ))  (h : K27 s σ) : PF st1 (K27 s) (f_X11_chosen r_X11_chosen r_X11_match p0 p1 σ) := by
  unfold f_X11_chosen
  exact (wf_X11_chosen_5 h_r_X11_chosen h_r_X11_match _ _ _ _ _ _ h)
theorem wf_X11_match_55 {s : ST} {r_X11_chosen : Int32 → Int32 → ST → Option (Int32 × ST)} {r_X11_match : Int32 → Int32 → ST → Option (Int32 × ST)} {k16 : Int32 → Int32 → Int32 → Int32 → ST → Option (Int32 × ST)} {x1 : Int32} {x2 : Int32} {x4 : Int32} {y0 : Int32} {σ : ST} (h_r_X11_chosen : ∀ (x1 : Int32) (x2 : Int32) (σ : ST), K27 s σ → PF st1 (K27 s) (r_X11_chosen x1 x2 σ)) (h_r_X11_match : ∀ (x1 : Int32) (x2 : Int32) (σ : ST), K27 s σ → PF st1 (K27 s) (r_X11_match x1 x2 σ)) (h_k16 : ∀ (x1 : Int32) (x2 : Int32) (x3 : Int32) (x4 : Int32) (σ : ST), K27 s σ → PF st1 (K27 s) (k16 x1 x2 x3 x4 σ))  (h : K27 s σ) : PF st1 (K27 s) (f_X11_match_55 r_X11_chosen r_X11_match k16 x1 x2 x4 y0 σ) := by
  unfold f_X11_match_55
  exact (h_k16 _ _ _ _ _ h)
theorem wf_X11_match_50 {s : ST} {r_X11_chosen : Int32 → Int32 → ST → Option (Int32 × ST)} {r_X11_match : Int32 → Int32 → ST → Option (Int32 × ST)} {k16 : Int32 → Int32 → Int32 → Int32 → ST → Option (Int32 × ST)} {x1 : Int32} {x2 : Int32} {x4 : Int32} {σ : ST} (h_r_X11_chosen : ∀ (x1 : Int32) (x2 : Int32) (σ : ST), K27 s σ → PF st1 (K27 s) (r_X11_chosen x1 x2 σ)) (h_r_X11_match : ∀ (x1 : Int32) (x2 : Int32) (σ : ST), K27 s σ → PF st1 (K27 s) (r_X11_match x1 x2 σ)) (h_k16 : ∀ (x1 : Int32) (x2 : Int32) (x3 : Int32) (x4 : Int32) (σ : ST), K27 s σ → PF st1 (K27 s) (k16 x1 x2 x3 x4 σ))  (h : K27 s σ) : PF st1 (K27 s) (f_X11_match_50 r_X11_chosen r_X11_match k16 x1 x2 x4 σ) := by
  unfold f_X11_match_50
  exact (wf_X11_match_55 h_r_X11_chosen h_r_X11_match h_k16 h)
theorem wf_X11_match_16 {s : ST} {r_X11_chosen : Int32 → Int32 → ST → Option (Int32 × ST)} {r_X11_match : Int32 → Int32 → ST → Option (Int32 × ST)} (h_r_X11_chosen : ∀ (x1 : Int32) (x2 : Int32) (σ : ST), K27 s σ → PF st1 (K27 s) (r_X11_chosen x1 x2 σ)) (h_r_X11_match : ∀ (x1 : Int32) (x2 : Int32) (σ : ST), K27 s σ → PF st1 (K27 s) (r_X11_match x1 x2 σ))  : ∀ (n : Nat) (x1 : Int32) (x2 : Int32) (x3 : Int32) (x4 : Int32) (σ : ST), K27 s σ → PF st1 (K27 s) (f_X11_match_16 r_X11_chosen r_X11_match n x1 x2 x3 x4 σ) := by
  intro n
  induction n with
  | zero => intro x1 x2 x3 x4 σ h; rw [f_X11_match_16]; exact PF.none
  | succ n ih =>
    intro x1 x2 x3 x4 σ h
    rw [f_X11_match_16]
    exact (PF.ite (fun _ => (PF.ite (fun _ => (PF.ite (fun _ => (PF.ret1 h)) (fun _ => PF.none))) (fun _ => (PF.ite (fun _ => (PF.ite (fun _ => (PF.bnd (h_r_X11_match _ _ _ h) (fun q3 hq3 => (PF.ite (fun _ => (wf_X11_match_55 h_r_X11_chosen h_r_X11_match ih hq3)) (fun _ => (wf_X11_match_50 h_r_X11_chosen h_r_X11_match ih hq3)))))) (fun _ => PF.none))) (fun _ => (wf_X11_match_50 h_r_X11_chosen h_r_X11_match ih h)))))) (fun _ => PF.none))
theorem wf_X11_match_204 {s : ST} {r_X11_chosen : Int32 → Int32 → ST → Option (Int32 × ST)} {r_X11_match : Int32 → Int32 → ST → Option (Int32 × ST)} {σ : ST} (h_r_X11_chosen : ∀ (x1 : Int32) (x2 : Int32) (σ : ST), K27 s σ → PF st1 (K27 s) (r_X11_chosen x1 x2 σ)) (h_r_X11_match : ∀ (x1 : Int32) (x2 : Int32) (σ : ST), K27 s σ → PF st1 (K27 s) (r_X11_match x1 x2 σ))  (h : K27 s σ) : PF st1 (K27 s) (f_X11_match_204 r_X11_chosen r_X11_match σ) := by
  unfold f_X11_match_204
  exact (PF.ret1 h)
theorem wf_X11_match_193 {s : ST} {r_X11_chosen : Int32 → Int32 → ST → Option (Int32 × ST)} {r_X11_match : Int32 → Int32 → ST → Option (Int32 × ST)} {x3 : Int32} {x4 : Int32} {σ : ST} (h_r_X11_chosen : ∀ (x1 : Int32) (x2 : Int32) (σ : ST), K27 s σ → PF st1 (K27 s) (r_X11_chosen x1 x2 σ)) (h_r_X11_match : ∀ (x1 : Int32) (x2 : Int32) (σ : ST), K27 s σ → PF st1 (K27 s) (r_X11_match x1 x2 σ))  (h : K27 s σ) : PF st1 (K27 s) (f_X11_match_193 r_X11_chosen r_X11_match x3 x4 σ) := by
  unfold f_X11_match_193
  exact (PF.ite (fun _ => (PF.ite (fun _ => (wf_X11_match_204 h_r_X11_chosen h_r_X11_match h)) (fun _ => (PF.ret1 h)))) (fun _ => (PF.ret1 h)))
theorem wf_X11_match_170 {s : ST} {r_X11_chosen : Int32 → Int32 → ST → Option (Int32 × ST)} {r_X11_match : Int32 → Int32 → ST → Option (Int32 × ST)} {x3 : Int32} {x4 : Int32} {σ : ST} (h_r_X11_chosen : ∀ (x1 : Int32) (x2 : Int32) (σ : ST), K27 s σ → PF st1 (K27 s) (r_X11_chosen x1 x2 σ)) (h_r_X11_match : ∀ (x1 : Int32) (x2 : Int32) (σ : ST), K27 s σ → PF st1 (K27 s) (r_X11_match x1 x2 σ))  (h : K27 s σ) : PF st1 (K27 s) (f_X11_match_170 r_X11_chosen r_X11_match x3 x4 σ) := by
  unfold f_X11_match_170
  exact (PF.ite (fun _ => (wf_X11_match_204 h_r_X11_chosen h_r_X11_match h)) (fun _ => (PF.ite (fun _ => (PF.ite (fun _ => (wf_X11_match_204 h_r_X11_chosen h_r_X11_match h)) (fun _ => (PF.ite (fun _ => (wf_X11_match_204 h_r_X11_chosen h_r_X11_match h)) (fun _ => (wf_X11_match_193 h_r_X11_chosen h_r_X11_match h)))))) (fun _ => (wf_X11_match_193 h_r_X11_chosen h_r_X11_match h)))))
theorem wf_X11_match_135 {s : ST} {r_X11_chosen : Int32 → Int32 → ST → Option (Int32 × ST)} {r_X11_match : Int32 → Int32 → ST → Option (Int32 × ST)} {x1 : Int32} {x2 : Int32} {x3 : Int32} {x4 : Int32} {σ : ST} (h_r_X11_chosen : ∀ (x1 : Int32) (x2 : Int32) (σ : ST), K27 s σ → PF st1 (K27 s) (r_X11_chosen x1 x2 σ)) (h_r_X11_match : ∀ (x1 : Int32) (x2 : Int32) (σ : ST), K27 s σ → PF st1 (K27 s) (r_X11_match x1 x2 σ))  (h : K27 s σ) : PF st1 (K27 s) (f_X11_match_135 r_X11_chosen r_X11_match x1 x2 x3 x4 σ) := by
  unfold f_X11_match_135
  exact (PF.ite (fun _ => (PF.ite (fun _ => (PF.ite (fun _ => (PF.ite (fun _ => (PF.ite (fun _ => (PF.ite (fun _ => (PF.ret1 h)) (fun _ => PF.none))) (fun _ => PF.none))) (fun _ => PF.none))) (fun _ => PF.none))) (fun _ => (wf_X11_match_170 h_r_X11_chosen h_r_X11_match h)))) (fun _ => (wf_X11_match_170 h_r_X11_chosen h_r_X11_match h)))
theorem wf_X11_match {s : ST} {r_X11_chosen : Int32 → Int32 → ST → Option (Int32 × ST)} {r_X11_match : Int32 → Int32 → ST → Option (Int32 × ST)} {p0 : Int32} {p1 : Int32} {σ : ST} (h_r_X11_chosen : ∀ (x1 : Int32) (x2 : Int32) (σ : ST), K27 s σ → PF st1 (K27 s) (r_X11_chosen x1 x2 σ)) (h_r_X11_match : ∀ (x1 : Int32) (x2 : Int32) (σ : ST), K27 s σ → PF st1 (K27 s) (r_X11_match x1 x2 σ))  (h : K27 s σ) : PF st1 (K27 s) (f_X11_match r_X11_chosen r_X11_match p0 p1 σ) := by
  unfold f_X11_match
  exact (PF.ite (fun _ => (PF.ite (fun _ => (wf_X11_match_16 h_r_X11_chosen h_r_X11_match _ _ _ _ _ _ h)) (fun _ => (PF.ite (fun _ => (PF.ite (fun _ => (PF.bnd (h_r_X11_chosen _ _ _ h) (fun q5 hq5 => (PF.ite (fun _ => (PF.ret1 hq5)) (fun _ => (PF.ret1 hq5)))))) (fun _ => (PF.ite (fun _ => (PF.ite (fun _ => (PF.bnd (h_r_X11_match _ _ _ h) (fun q3 hq3 => (PF.ite (fun _ => (PF.ret1 hq3)) (fun _ => PF.none))))) (fun _ => (wf_X11_match_135 h_r_X11_chosen h_r_X11_match h)))) (fun _ => (wf_X11_match_135 h_r_X11_chosen h_r_X11_match h)))))) (fun _ => PF.none))))) (fun _ => PF.none))
theorem wfR_X11_chosen {s : ST} : ∀ n : Nat, (∀ (p0 : Int32) (p1 : Int32) (σ : ST), K27 s σ → PF st1 (K27 s) ((R_X11_chosen n).1 p0 p1 σ)) ∧ (∀ (p0 : Int32) (p1 : Int32) (σ : ST), K27 s σ → PF st1 (K27 s) ((R_X11_chosen n).2 p0 p1 σ)) := by
  intro n
  induction n with
  | zero => exact ⟨fun _ _ _ _ => PF.none, fun _ _ _ _ => PF.none⟩
  | succ n ih => exact ⟨fun _ _ _ h => wf_X11_chosen (ih.1) (ih.2)  h, fun _ _ _ h => wf_X11_match (ih.1) (ih.2)  h⟩
theorem wf_T_X11_match {s : ST} {p0 : Int32} {p1 : Int32} {σ : ST} (h : K27 s σ) : PF st1 (K27 s) (f_T_X11_match p0 p1 σ) := (wfR_X11_chosen FRB).2 _ _ _  h
theorem wf_X11_holds_94 {s : ST} {k24 : Int32 → Int32 → Int32 → ST → Option (Int32 × ST)} {x1 : Int32} {x3 : Int32} {x4 : Int32} {σ : ST} (h_k24 : ∀ (x1 : Int32) (x2 : Int32) (x3 : Int32) (σ : ST), K27 s σ → PF st1 (K27 s) (k24 x1 x2 x3 σ))  (h : K27 s σ) : PF st1 (K27 s) (f_X11_holds_94 k24 x1 x3 x4 σ) := by
  unfold f_X11_holds_94
  exact (h_k24 _ _ _ _ h)
theorem wf_X11_holds_24 {s : ST}    : ∀ (n : Nat) (x1 : Int32) (x2 : Int32) (x3 : Int32) (σ : ST), K27 s σ → PF st1 (K27 s) (f_X11_holds_24  n x1 x2 x3 σ) := by
  intro n
  induction n with
  | zero => intro x1 x2 x3 σ h; rw [f_X11_holds_24]; exact PF.none
  | succ n ih =>
    intro x1 x2 x3 σ h
    rw [f_X11_holds_24]
    exact (PF.ite (fun _ => (PF.ite (fun _ => (PF.ret1 h)) (fun _ => (PF.bnd (wf_X11_fieldFor  h) (fun q2 hq2 => (PF.ite (fun _ => (PF.ite (fun _ => (PF.ite (fun _ => (PF.bnd (wf_T_X11_match hq2) (fun q6 hq6 => (PF.ite (fun _ => (PF.ret1 hq6)) (fun _ => (wf_X11_holds_94 ih hq6)))))) (fun _ => PF.none))) (fun _ => PF.none))) (fun _ => (PF.ite (fun _ => (PF.ite (fun _ => (PF.ret1 hq2)) (fun _ => (wf_X11_holds_94 ih hq2)))) (fun _ => PF.none))))))))) (fun _ => PF.none))
theorem wf_X11_holds {s : ST} {p0 : Int32} {p1 : Int32} {σ : ST}   (h : K27 s σ) : PF st1 (K27 s) (f_X11_holds p0 p1 σ) := by
  unfold f_X11_holds
  exact (PF.bnd (wf_X11_namesMay  h) (fun q1 hq1 => (PF.ite (fun _ => (PF.ret1 hq1)) (fun _ => (wf_X11_holds_24  _ _ _ _ _ hq1)))))
theorem wf_X11_laysPairs_72 {s : ST} {k63 : Int32 → ST → Option (ST)} (h_k63 : ∀ (x1 : Int32) (σ : ST), K27 s σ → PF st0 (K27 s) (k63 x1 σ))  : ∀ (n : Nat) (x1 : Int32) (x2 : Int32) (σ : ST), K27 s σ → PF st0 (K27 s) (f_X11_laysPairs_72 k63 n x1 x2 σ) := by
  intro n
  induction n with
  | zero => intro x1 x2 σ h; rw [f_X11_laysPairs_72]; exact PF.none
  | succ n ih =>
    intro x1 x2 σ h
    rw [f_X11_laysPairs_72]
    exact (PF.ite (fun _ => (h_k63 _ _ h)) (fun _ => (PF.ite (fun _ => (PF.ite (fun _ => (wf_X11_laysPairs_116 h_k63 ih h)) (fun _ => (PF.bnd (wf_X11_holds  h) (fun q2 hq2 => (PF.ite (fun _ => (wf_X11_laysPairs_116 h_k63 ih (K27.i (by first | exact .inl (by decide) | exact .inr (.inl (by decide)) | exact .inr (.inr (by decide))) hq2))) (fun _ => (wf_X11_laysPairs_116 h_k63 ih hq2)))))))) (fun _ => PF.none))))
theorem wf_X11_laysPairs_63 {s : ST}    : ∀ (n : Nat) (x1 : Int32) (σ : ST), K27 s σ → PF st0 (K27 s) (f_X11_laysPairs_63  n x1 σ) := by
  intro n
  induction n with
  | zero => intro x1 σ h; rw [f_X11_laysPairs_63]; exact PF.none
  | succ n ih =>
    intro x1 σ h
    rw [f_X11_laysPairs_63]
    exact (PF.ite (fun _ => (PF.ret0 h)) (fun _ => (wf_X11_laysPairs_72 ih _ _ _ _ h)))
theorem wf_X11_laysPairs_54 {s : ST} {k12 : Int32 → Int32 → Int32 → ST → Option (ST)} {x1 : Int32} {x2 : Int32} {x3 : Int32} {y0 : Int32} {y1 : Int32} {σ : ST} (h_k12 : ∀ (x1 : Int32) (x2 : Int32) (x3 : Int32) (σ : ST), K27 s σ → PF st0 (K27 s) (k12 x1 x2 x3 σ))  (h : K27 s σ) : PF st0 (K27 s) (f_X11_laysPairs_54 k12 x1 x2 x3 y0 y1 σ) := by
  unfold f_X11_laysPairs_54
  exact (PF.ite (fun _ => (h_k12 _ _ _ _ (K27.i (by first | exact .inl (by decide) | exact .inr (.inl (by decide)) | exact .inr (.inr (by decide))) h))) (fun _ => PF.none))
theorem wf_X11_laysPairs_53 {s : ST} {k12 : Int32 → Int32 → Int32 → ST → Option (ST)} {x1 : Int32} {x2 : Int32} {x3 : Int32} {y0 : Int32} {σ : ST} (h_k12 : ∀ (x1 : Int32) (x2 : Int32) (x3 : Int32) (σ : ST), K27 s σ → PF st0 (K27 s) (k12 x1 x2 x3 σ))  (h : K27 s σ) : PF st0 (K27 s) (f_X11_laysPairs_53 k12 x1 x2 x3 y0 σ) := by
  unfold f_X11_laysPairs_53
  exact (wf_X11_laysPairs_54 h_k12 h)
theorem wf_X11_laysPairs_12 {s : ST}    : ∀ (n : Nat) (x1 : Int32) (x2 : Int32) (x3 : Int32) (σ : ST), K27 s σ → PF st0 (K27 s) (f_X11_laysPairs_12  n x1 x2 x3 σ) := by
  intro n
  induction n with
  | zero => intro x1 x2 x3 σ h; rw [f_X11_laysPairs_12]; exact PF.none
  | succ n ih =>
    intro x1 x2 x3 σ h
    rw [f_X11_laysPairs_12]
    exact (PF.ite (fun _ => (wf_X11_laysPairs_63  _ _ _ h)) (fun _ => (PF.ite (fun _ => (PF.ite (fun _ => (wf_X11_laysPairs_53 ih h)) (fun _ => (PF.ite (fun _ => (PF.ite (fun _ => (wf_X11_laysPairs_53 ih h)) (fun _ => (wf_X11_laysPairs_54 ih h)))) (fun _ => PF.none))))) (fun _ => PF.none))))
theorem wf_X11_laysPairs {s : ST} {p0 : Int32} {p1 : Int32} {σ : ST}   (h : K27 s σ) : PF st0 (K27 s) (f_X11_laysPairs p0 p1 σ) := by
  unfold f_X11_laysPairs
  exact (wf_X11_laysPairs_12  _ _ _ _ _ (K27.i (by first | exact .inl (by decide) | exact .inr (.inl (by decide)) | exact .inr (.inr (by decide))) (K27.i (by first | exact .inl (by decide) | exact .inr (.inl (by decide)) | exact .inr (.inr (by decide))) h)))
theorem wf_X11_fails_36 {s : ST}    : ∀ (n : Nat) (x1 : Int32) (σ : ST), K27 s σ → PF st1 (K27 s) (f_X11_fails_36  n x1 σ) := by
  intro n
  induction n with
  | zero => intro x1 σ h; rw [f_X11_fails_36]; exact PF.none
  | succ n ih =>
    intro x1 σ h
    rw [f_X11_fails_36]
    exact (PF.ite (fun _ => (PF.ret1 h)) (fun _ => (PF.ite (fun _ => (ih _ _ (K27.i (by first | exact .inl (by decide) | exact .inr (.inl (by decide)) | exact .inr (.inr (by decide))) h))) (fun _ => PF.none))))
theorem wf_X11_fails_31 {s : ST} {y0 : Int32} {σ : ST}   (h : K27 s σ) : PF st1 (K27 s) (f_X11_fails_31 y0 σ) := by
  unfold f_X11_fails_31
  exact (wf_X11_fails_36  _ _ _ (K27.i (by first | exact .inl (by decide) | exact .inr (.inl (by decide)) | exact .inr (.inr (by decide))) h))
theorem wf_X11_fails_23 {s : ST}  {σ : ST}   (h : K27 s σ) : PF st1 (K27 s) (f_X11_fails_23 σ) := by
  unfold f_X11_fails_23
  exact (wf_X11_fails_31  h)
theorem wf_X11_fails {s : ST} {p0 : Int32} {p1 : Int32} {σ : ST}   (h : K27 s σ) : PF st1 (K27 s) (f_X11_fails p0 p1 σ) := by
  unfold f_X11_fails
  exact (PF.ite (fun _ => (wf_X11_fails_23  (K27.i (by first | exact .inl (by decide) | exact .inr (.inl (by decide)) | exact .inr (.inr (by decide))) (K27.i (by first | exact .inl (by decide) | exact .inr (.inl (by decide)) | exact .inr (.inr (by decide))) h)))) (fun _ => (PF.ite (fun _ => (wf_X11_fails_23  (K27.i (by first | exact .inl (by decide) | exact .inr (.inl (by decide)) | exact .inr (.inr (by decide))) (K27.i (by first | exact .inl (by decide) | exact .inr (.inl (by decide)) | exact .inr (.inr (by decide))) h)))) (fun _ => (wf_X11_fails_31  (K27.i (by first | exact .inl (by decide) | exact .inr (.inl (by decide)) | exact .inr (.inr (by decide))) (K27.i (by first | exact .inl (by decide) | exact .inr (.inl (by decide)) | exact .inr (.inr (by decide))) h)))))))
theorem wf_X11_nextByte {s : ST}  {σ : ST}   (h : K27 s σ) : PF st1 (K27 s) (f_X11_nextByte σ) := by
  unfold f_X11_nextByte
  exact (PF.ite (fun _ => (PF.bnd (wf_X11_fails  h) (fun q2 hq2 => (PF.ret1 hq2)))) (fun _ => (PF.ite (fun _ => (PF.ret1 (K27.i (by first | exact .inl (by decide) | exact .inr (.inl (by decide)) | exact .inr (.inr (by decide))) h))) (fun _ => PF.none))))
theorem wf_X11_readsNumber_46 {s : ST} {k5 : Int32 → Int64 → Int32 → ST → Option (Int32 × ST)} {x1 : Int32} {x2 : Int64} {x4 : Int32} {x5 : Int32} {σ : ST} (h_k5 : ∀ (x1 : Int32) (x2 : Int64) (x3 : Int32) (σ : ST), K27 s σ → PF st1 (K27 s) (k5 x1 x2 x3 σ))  (h : K27 s σ) : PF st1 (K27 s) (f_X11_readsNumber_46 k5 x1 x2 x4 x5 σ) := by
  unfold f_X11_readsNumber_46
  exact (PF.ite (fun _ => (h_k5 _ _ _ _ h)) (fun _ => (PF.bnd (PF.ret0 (K27.l h)) (fun z1 hz1 => (PF.ret1 hz1)))))
theorem wf_X11_readsNumber_5 {s : ST}    : ∀ (n : Nat) (x1 : Int32) (x2 : Int64) (x3 : Int32) (σ : ST), K27 s σ → PF st1 (K27 s) (f_X11_readsNumber_5  n x1 x2 x3 σ) := by
  intro n
  induction n with
  | zero => intro x1 x2 x3 σ h; rw [f_X11_readsNumber_5]; exact PF.none
  | succ n ih =>
    intro x1 x2 x3 σ h
    rw [f_X11_readsNumber_5]
    exact (PF.ite (fun _ => (PF.ret1 h)) (fun _ => (PF.bnd (wf_X11_nextByte  h) (fun q1 hq1 => (PF.ite (fun _ => (PF.ite (fun _ => (PF.ite (fun _ => (wf_X11_readsNumber_46 ih hq1)) (fun _ => (PF.bnd (wf_X11_fails  hq1) (fun q3 hq3 => (PF.ite (fun _ => (PF.ret1 hq3)) (fun _ => PF.none))))))) (fun _ => (wf_X11_readsNumber_46 ih hq1)))) (fun _ => (PF.ret1 hq1)))))))
theorem wf_X11_readsNumber {s : ST} {p0 : Int32} {σ : ST}   (h : K27 s σ) : PF st1 (K27 s) (f_X11_readsNumber p0 σ) := by
  unfold f_X11_readsNumber
  exact (wf_X11_readsNumber_5  _ _ _ _ _ h)
theorem wf_X11_readsInt_31 {s : ST}  {σ : ST}   (h : K27 s σ) : PF st1 (K27 s) (f_X11_readsInt_31 σ) := by
  unfold f_X11_readsInt_31
  exact (PF.ret1 h)
theorem wf_X11_readsInt {s : ST} {p0 : Int32} {p1 : Int64} {p2 : Int64} {σ : ST}   (h : K27 s σ) : PF st1 (K27 s) (f_X11_readsInt p0 p1 p2 σ) := by
  unfold f_X11_readsInt
  exact (PF.bnd (wf_X11_readsNumber  h) (fun q1 hq1 => (PF.ite (fun _ => (PF.ret1 hq1)) (fun _ => (PF.bnd (wf_X11_within  hq1) (fun q3 hq3 => (PF.ite (fun _ => (PF.bnd (wf_X11_fails  hq3) (fun q5 hq5 => (PF.ite (fun _ => (PF.ret1 hq5)) (fun _ => (wf_X11_readsInt_31  hq5)))))) (fun _ => (wf_X11_readsInt_31  hq3)))))))))
theorem wf_X11_enters {s : ST} {p0 : Int32} {σ : ST}   (h : K27 s σ) : PF st0 (K27 s) (f_X11_enters p0 σ) := by
  unfold f_X11_enters
  exact (PF.ite (fun _ => (PF.bnd (PF.ret0 (K27.i (by first | exact .inl (by decide) | exact .inr (.inl (by decide)) | exact .inr (.inr (by decide))) (K27.i (by first | exact .inl (by decide) | exact .inr (.inl (by decide)) | exact .inr (.inr (by decide))) h))) (fun z2 hz2 => (PF.ret0 hz2)))) (fun _ => PF.none))
theorem wf_X11_reads_96 {s : ST} {r_X11_reads : Int32 → Int32 → Int32 → Int32 → Int32 → ST → Option (Int32 × ST)} {r_X11_readsItems : Int32 → Int32 → Int32 → Int32 → ST → Option (Int32 × ST)} {r_X11_readsRecord : Int32 → Int32 → Int32 → Int32 → ST → Option (Int32 × ST)} {x2 : Int32} {x3 : Int32} {x4 : Int32} {x5 : Int32} {x7 : Int32} {x8 : Int32} {σ : ST} (h_r_X11_reads : ∀ (x1 : Int32) (x2 : Int32) (x3 : Int32) (x4 : Int32) (x5 : Int32) (σ : ST), K27 s σ → PF st1 (K27 s) (r_X11_reads x1 x2 x3 x4 x5 σ)) (h_r_X11_readsItems : ∀ (x1 : Int32) (x2 : Int32) (x3 : Int32) (x4 : Int32) (σ : ST), K27 s σ → PF st1 (K27 s) (r_X11_readsItems x1 x2 x3 x4 σ)) (h_r_X11_readsRecord : ∀ (x1 : Int32) (x2 : Int32) (x3 : Int32) (x4 : Int32) (σ : ST), K27 s σ → PF st1 (K27 s) (r_X11_readsRecord x1 x2 x3 x4 σ))  (h : K27 s σ) : PF st1 (K27 s) (f_X11_reads_96 r_X11_reads r_X11_readsItems r_X11_readsRecord x2 x3 x4 x5 x7 x8 σ) := by
  unfold f_X11_reads_96
  exact (PF.bnd (wf_X11_enters  h) (fun q1 hq1 => (PF.bnd (h_r_X11_reads _ _ _ _ _ _ hq1) (fun q3 hq3 => (PF.ite (fun _ => (PF.ret1 (K27.i (by first | exact .inl (by decide) | exact .inr (.inl (by decide)) | exact .inr (.inr (by decide))) hq3))) (fun _ => PF.none))))))
theorem wf_X11_readsFlag_30 {s : ST}  {σ : ST}   (h : K27 s σ) : PF st1 (K27 s) (f_X11_readsFlag_30 σ) := by
  unfold f_X11_readsFlag_30
  exact (PF.ret1 h)
theorem wf_X11_readsFlag {s : ST} {p0 : Int32} {σ : ST}   (h : K27 s σ) : PF st1 (K27 s) (f_X11_readsFlag p0 σ) := by
  unfold f_X11_readsFlag
  exact (PF.bnd (wf_X11_nextByte  h) (fun q1 hq1 => (PF.ite (fun _ => (PF.ret1 (K27.l hq1))) (fun _ => (PF.ite (fun _ => (wf_X11_readsFlag_30  (K27.l hq1))) (fun _ => (PF.bnd (wf_X11_fails  (K27.l hq1)) (fun q3 hq3 => (PF.ite (fun _ => (PF.ret1 hq3)) (fun _ => (wf_X11_readsFlag_30  hq3)))))))))))
theorem wf_X11_readsLeaf_229 {s : ST} {x5 : Int32} {y0 : Int32} {y1 : Int32} {σ : ST}   (h : K27 s σ) : PF st1 (K27 s) (f_X11_readsLeaf_229 x5 y0 y1 σ) := by
  unfold f_X11_readsLeaf_229
  exact (PF.ite (fun _ => (PF.ite (fun _ => (PF.ret1 (K27.i (by first | exact .inl (by decide) | exact .inr (.inl (by decide)) | exact .inr (.inr (by decide))) h))) (fun _ => PF.none))) (fun _ => PF.none))
theorem wf_X11_readsLeaf_209 {s : ST} {x3 : Int32} {x5 : Int32} {x6 : Int32} {y0 : Int64} {y1 : Int32} {σ : ST}   (h : K27 s σ) : PF st1 (K27 s) (f_X11_readsLeaf_209 x3 x5 x6 y0 y1 σ) := by
  unfold f_X11_readsLeaf_209
  exact (PF.ite (fun _ => (PF.ite (fun _ => (wf_X11_readsLeaf_229  (K27.l h))) (fun _ => (wf_X11_readsLeaf_229  (K27.l h))))) (fun _ => PF.none))
theorem wf_X11_readsLeaf_189 {s : ST} {x3 : Int32} {x5 : Int32} {x6 : Int32} {y0 : Int64} {y1 : Int32} {σ : ST}   (h : K27 s σ) : PF st1 (K27 s) (f_X11_readsLeaf_189 x3 x5 x6 y0 y1 σ) := by
  unfold f_X11_readsLeaf_189
  exact (PF.ite (fun _ => (PF.ite (fun _ => (wf_X11_readsLeaf_209  (K27.l h))) (fun _ => (wf_X11_readsLeaf_209  (K27.l h))))) (fun _ => PF.none))
theorem wf_X11_readsLeaf_155 {s : ST} {x3 : Int32} {x5 : Int32} {x6 : Int32} {x7 : Int32} {y0 : UInt64} {σ : ST}   (h : K27 s σ) : PF st1 (K27 s) (f_X11_readsLeaf_155 x3 x5 x6 x7 y0 σ) := by
  unfold f_X11_readsLeaf_155
  exact (PF.ite (fun _ => (wf_X11_readsLeaf_189  h)) (fun _ => (PF.ite (fun _ => (wf_X11_readsLeaf_189  h)) (fun _ => (PF.bnd (wf_Jxe99ae_doubleToLongBits_ccdee  h) (fun q1 hq1 => (wf_X11_readsLeaf_189  hq1)))))))
theorem wf_X11_readsLeaf_132 {s : ST} {x3 : Int32} {x5 : Int32} {x6 : Int32} {y0 : Int32} {σ : ST}   (h : K27 s σ) : PF st1 (K27 s) (f_X11_readsLeaf_132 x3 x5 x6 y0 σ) := by
  unfold f_X11_readsLeaf_132
  exact (PF.ite (fun _ => (wf_X11_readsLeaf_155  h)) (fun _ => (wf_X11_readsLeaf_155  h)))
theorem wf_X11_readsLeaf_108 {s : ST} {x2 : Int32} {x3 : Int32} {x5 : Int32} {x6 : Int32} {σ : ST}   (h : K27 s σ) : PF st1 (K27 s) (f_X11_readsLeaf_108 x2 x3 x5 x6 σ) := by
  unfold f_X11_readsLeaf_108
  exact (PF.ite (fun _ => (PF.ite (fun _ => (PF.ret1 h)) (fun _ => PF.none))) (fun _ => (PF.ite (fun _ => (PF.ite (fun _ => (PF.ret1 h)) (fun _ => PF.none))) (fun _ => (PF.ite (fun _ => (PF.ite (fun _ => (wf_X11_readsLeaf_132  h)) (fun _ => (wf_X11_readsLeaf_132  h)))) (fun _ => PF.none))))))
theorem wf_X11_readsReal_7 {s : ST}    : ∀ (n : Nat) (x1 : Int32) (σ : ST), K27 s σ → PF st1 (K27 s) (f_X11_readsReal_7  n x1 σ) := by
  intro n
  induction n with
  | zero => intro x1 σ h; rw [f_X11_readsReal_7]; exact PF.none
  | succ n ih =>
    intro x1 σ h
    rw [f_X11_readsReal_7]
    exact (PF.ite (fun _ => (PF.ret1 h)) (fun _ => (PF.bnd (wf_X11_nextByte  h) (fun q1 hq1 => (PF.ite (fun _ => (ih _ _ (K27.l hq1))) (fun _ => (PF.ret1 hq1)))))))
theorem wf_X11_readsReal {s : ST}  {σ : ST}   (h : K27 s σ) : PF st1 (K27 s) (f_X11_readsReal σ) := by
  unfold f_X11_readsReal
  exact (wf_X11_readsReal_7  _ _ _ (K27.l h))
theorem wf_X11_readsText_32 {s : ST}    : ∀ (n : Nat) (x1 : Int32) (x2 : Int32) (x3 : Int32) (σ : ST), K27 s σ → PF st1 (K27 s) (f_X11_readsText_32  n x1 x2 x3 σ) := by
  intro n
  induction n with
  | zero => intro x1 x2 x3 σ h; rw [f_X11_readsText_32]; exact PF.none
  | succ n ih =>
    intro x1 x2 x3 σ h
    rw [f_X11_readsText_32]
    exact (PF.ite (fun _ => (PF.ret1 h)) (fun _ => (PF.bnd (wf_X11_nextByte  h) (fun q1 hq1 => (PF.ite (fun _ => (PF.bnd (wf_X11_isLetter  hq1) (fun q3 hq3 => (PF.ite (fun _ => (PF.bnd (wf_X11_fails  hq3) (fun q5 hq5 => (PF.ite (fun _ => (PF.ret1 hq5)) (fun _ => PF.none))))) (fun _ => (ih _ _ _ _ (K27.l hq3))))))) (fun _ => (PF.ret1 hq1)))))))
theorem wf_X11_readsText {s : ST} {p0 : Int32} {σ : ST}   (h : K27 s σ) : PF st1 (K27 s) (f_X11_readsText p0 σ) := by
  unfold f_X11_readsText
  exact (PF.bnd (wf_X11_readsInt  h) (fun q1 hq1 => (PF.ite (fun _ => (PF.ret1 hq1)) (fun _ => (wf_X11_readsText_32  _ _ _ _ _ (K27.i (by first | exact .inl (by decide) | exact .inr (.inl (by decide)) | exact .inr (.inr (by decide))) (K27.l hq1)))))))
theorem wf_X11_readsLeaf {s : ST} {p0 : Int32} {p1 : Int32} {p2 : Int32} {σ : ST}   (h : K27 s σ) : PF st1 (K27 s) (f_X11_readsLeaf p0 p1 p2 σ) := by
  unfold f_X11_readsLeaf
  exact (PF.ite (fun _ => (PF.ite (fun _ => (PF.bnd (wf_X11_readsFlag  (K27.l h)) (fun q10 hq10 => (wf_X11_readsLeaf_108  hq10)))) (fun _ => (PF.ite (fun _ => (PF.bnd (wf_X11_readsInt  (K27.l h)) (fun q8 hq8 => (wf_X11_readsLeaf_108  hq8)))) (fun _ => (PF.ite (fun _ => (PF.bnd (wf_X11_readsNumber  (K27.l h)) (fun q6 hq6 => (wf_X11_readsLeaf_108  hq6)))) (fun _ => (PF.ite (fun _ => (PF.bnd (wf_X11_readsReal  (K27.l h)) (fun q4 hq4 => (wf_X11_readsLeaf_108  hq4)))) (fun _ => (PF.ite (fun _ => (PF.bnd (wf_X11_readsText  (K27.l h)) (fun q2 hq2 => (wf_X11_readsLeaf_108  hq2)))) (fun _ => (wf_X11_readsLeaf_108  (K27.l h))))))))))))) (fun _ => PF.none))
theorem wf_X11_reads_227 {s : ST} {r_X11_reads : Int32 → Int32 → Int32 → Int32 → Int32 → ST → Option (Int32 × ST)} {r_X11_readsItems : Int32 → Int32 → Int32 → Int32 → ST → Option (Int32 × ST)} {r_X11_readsRecord : Int32 → Int32 → Int32 → Int32 → ST → Option (Int32 × ST)} {x1 : Int32} {x3 : Int32} {x8 : Int32} {x9 : Int32} {σ : ST} (h_r_X11_reads : ∀ (x1 : Int32) (x2 : Int32) (x3 : Int32) (x4 : Int32) (x5 : Int32) (σ : ST), K27 s σ → PF st1 (K27 s) (r_X11_reads x1 x2 x3 x4 x5 σ)) (h_r_X11_readsItems : ∀ (x1 : Int32) (x2 : Int32) (x3 : Int32) (x4 : Int32) (σ : ST), K27 s σ → PF st1 (K27 s) (r_X11_readsItems x1 x2 x3 x4 σ)) (h_r_X11_readsRecord : ∀ (x1 : Int32) (x2 : Int32) (x3 : Int32) (x4 : Int32) (σ : ST), K27 s σ → PF st1 (K27 s) (r_X11_readsRecord x1 x2 x3 x4 σ))  (h : K27 s σ) : PF st1 (K27 s) (f_X11_reads_227 r_X11_reads r_X11_readsItems r_X11_readsRecord x1 x3 x8 x9 σ) := by
  unfold f_X11_reads_227
  exact (PF.ite (fun _ => (PF.ite (fun _ => (PF.bnd (h_r_X11_readsItems _ _ _ _ _ h) (fun q4 hq4 => (PF.ite (fun _ => (PF.ret1 hq4)) (fun _ => PF.none))))) (fun _ => (PF.ite (fun _ => (PF.bnd (h_r_X11_readsRecord _ _ _ _ _ h) (fun q6 hq6 => (PF.ite (fun _ => (PF.ret1 hq6)) (fun _ => PF.none))))) (fun _ => (PF.bnd (wf_X11_readsLeaf  h) (fun q8 hq8 => (PF.ite (fun _ => (PF.ret1 hq8)) (fun _ => PF.none))))))))) (fun _ => PF.none))
theorem wf_X11_reads_180 {s : ST} {r_X11_reads : Int32 → Int32 → Int32 → Int32 → Int32 → ST → Option (Int32 × ST)} {r_X11_readsItems : Int32 → Int32 → Int32 → Int32 → ST → Option (Int32 × ST)} {r_X11_readsRecord : Int32 → Int32 → Int32 → Int32 → ST → Option (Int32 × ST)} {x1 : Int32} {x3 : Int32} {x4 : Int32} {x5 : Int32} {x7 : Int32} {y0 : Int32} {σ : ST} (h_r_X11_reads : ∀ (x1 : Int32) (x2 : Int32) (x3 : Int32) (x4 : Int32) (x5 : Int32) (σ : ST), K27 s σ → PF st1 (K27 s) (r_X11_reads x1 x2 x3 x4 x5 σ)) (h_r_X11_readsItems : ∀ (x1 : Int32) (x2 : Int32) (x3 : Int32) (x4 : Int32) (σ : ST), K27 s σ → PF st1 (K27 s) (r_X11_readsItems x1 x2 x3 x4 σ)) (h_r_X11_readsRecord : ∀ (x1 : Int32) (x2 : Int32) (x3 : Int32) (x4 : Int32) (σ : ST), K27 s σ → PF st1 (K27 s) (r_X11_readsRecord x1 x2 x3 x4 σ))  (h : K27 s σ) : PF st1 (K27 s) (f_X11_reads_180 r_X11_reads r_X11_readsItems r_X11_readsRecord x1 x3 x4 x5 x7 y0 σ) := by
  unfold f_X11_reads_180
  exact (PF.ite (fun _ => (wf_X11_reads_227 h_r_X11_reads h_r_X11_readsItems h_r_X11_readsRecord h)) (fun _ => (PF.ite (fun _ => (PF.bnd (wf_X11_fails  h) (fun q4 hq4 => (PF.ite (fun _ => (PF.ret1 hq4)) (fun _ => PF.none))))) (fun _ => (PF.ite (fun _ => (PF.bnd (wf_X11_laysNode  h) (fun q2 hq2 => (wf_X11_reads_227 h_r_X11_reads h_r_X11_readsItems h_r_X11_readsRecord hq2)))) (fun _ => PF.none))))))
theorem wf_X11_reads_158 {s : ST} {r_X11_reads : Int32 → Int32 → Int32 → Int32 → Int32 → ST → Option (Int32 × ST)} {r_X11_readsItems : Int32 → Int32 → Int32 → Int32 → ST → Option (Int32 × ST)} {r_X11_readsRecord : Int32 → Int32 → Int32 → Int32 → ST → Option (Int32 × ST)} {x1 : Int32} {x2 : Int32} {x3 : Int32} {x4 : Int32} {x5 : Int32} {y0 : Int32} {σ : ST} (h_r_X11_reads : ∀ (x1 : Int32) (x2 : Int32) (x3 : Int32) (x4 : Int32) (x5 : Int32) (σ : ST), K27 s σ → PF st1 (K27 s) (r_X11_reads x1 x2 x3 x4 x5 σ)) (h_r_X11_readsItems : ∀ (x1 : Int32) (x2 : Int32) (x3 : Int32) (x4 : Int32) (σ : ST), K27 s σ → PF st1 (K27 s) (r_X11_readsItems x1 x2 x3 x4 σ)) (h_r_X11_readsRecord : ∀ (x1 : Int32) (x2 : Int32) (x3 : Int32) (x4 : Int32) (σ : ST), K27 s σ → PF st1 (K27 s) (r_X11_readsRecord x1 x2 x3 x4 σ))  (h : K27 s σ) : PF st1 (K27 s) (f_X11_reads_158 r_X11_reads r_X11_readsItems r_X11_readsRecord x1 x2 x3 x4 x5 y0 σ) := by
  unfold f_X11_reads_158
  exact (PF.ite (fun _ => (PF.ite (fun _ => (wf_X11_reads_180 h_r_X11_reads h_r_X11_readsItems h_r_X11_readsRecord h)) (fun _ => PF.none))) (fun _ => (wf_X11_reads_180 h_r_X11_reads h_r_X11_readsItems h_r_X11_readsRecord h)))
theorem wf_X11_reads_157 {s : ST} {r_X11_reads : Int32 → Int32 → Int32 → Int32 → Int32 → ST → Option (Int32 × ST)} {r_X11_readsItems : Int32 → Int32 → Int32 → Int32 → ST → Option (Int32 × ST)} {r_X11_readsRecord : Int32 → Int32 → Int32 → Int32 → ST → Option (Int32 × ST)} {x1 : Int32} {x2 : Int32} {x3 : Int32} {x4 : Int32} {x5 : Int32} {σ : ST} (h_r_X11_reads : ∀ (x1 : Int32) (x2 : Int32) (x3 : Int32) (x4 : Int32) (x5 : Int32) (σ : ST), K27 s σ → PF st1 (K27 s) (r_X11_reads x1 x2 x3 x4 x5 σ)) (h_r_X11_readsItems : ∀ (x1 : Int32) (x2 : Int32) (x3 : Int32) (x4 : Int32) (σ : ST), K27 s σ → PF st1 (K27 s) (r_X11_readsItems x1 x2 x3 x4 σ)) (h_r_X11_readsRecord : ∀ (x1 : Int32) (x2 : Int32) (x3 : Int32) (x4 : Int32) (σ : ST), K27 s σ → PF st1 (K27 s) (r_X11_readsRecord x1 x2 x3 x4 σ))  (h : K27 s σ) : PF st1 (K27 s) (f_X11_reads_157 r_X11_reads r_X11_readsItems r_X11_readsRecord x1 x2 x3 x4 x5 σ) := by
  unfold f_X11_reads_157
  exact (wf_X11_reads_158 h_r_X11_reads h_r_X11_readsItems h_r_X11_readsRecord h)
theorem wf_T_X11_chosen {s : ST} {p0 : Int32} {p1 : Int32} {σ : ST} (h : K27 s σ) : PF st1 (K27 s) (f_T_X11_chosen p0 p1 σ) := (wfR_X11_chosen FRB).1 _ _ _  h
theorem wf_X11_reads {s : ST} {r_X11_reads : Int32 → Int32 → Int32 → Int32 → Int32 → ST → Option (Int32 × ST)} {r_X11_readsItems : Int32 → Int32 → Int32 → Int32 → ST → Option (Int32 × ST)} {r_X11_readsRecord : Int32 → Int32 → Int32 → Int32 → ST → Option (Int32 × ST)} {p0 : Int32} {p1 : Int32} {p2 : Int32} {p3 : Int32} {p4 : Int32} {σ : ST} (h_r_X11_reads : ∀ (x1 : Int32) (x2 : Int32) (x3 : Int32) (x4 : Int32) (x5 : Int32) (σ : ST), K27 s σ → PF st1 (K27 s) (r_X11_reads x1 x2 x3 x4 x5 σ)) (h_r_X11_readsItems : ∀ (x1 : Int32) (x2 : Int32) (x3 : Int32) (x4 : Int32) (σ : ST), K27 s σ → PF st1 (K27 s) (r_X11_readsItems x1 x2 x3 x4 σ)) (h_r_X11_readsRecord : ∀ (x1 : Int32) (x2 : Int32) (x3 : Int32) (x4 : Int32) (σ : ST), K27 s σ → PF st1 (K27 s) (r_X11_readsRecord x1 x2 x3 x4 σ))  (h : K27 s σ) : PF st1 (K27 s) (f_X11_reads r_X11_reads r_X11_readsItems r_X11_readsRecord p0 p1 p2 p3 p4 σ) := by
  unfold f_X11_reads
  exact (PF.ite (fun _ => (PF.ite (fun _ => (PF.ite (fun _ => (PF.bnd (wf_X11_readsInt  h) (fun q5 hq5 => (PF.ite (fun _ => (PF.ret1 hq5)) (fun _ => (PF.ite (fun _ => (PF.ite (fun _ => (wf_X11_reads_96 h_r_X11_reads h_r_X11_readsItems h_r_X11_readsRecord hq5)) (fun _ => (PF.bnd (wf_T_X11_match hq5) (fun q8 hq8 => (PF.ite (fun _ => (PF.bnd (wf_X11_fails  hq8) (fun q10 hq10 => (PF.ite (fun _ => (PF.ret1 hq10)) (fun _ => PF.none))))) (fun _ => (wf_X11_reads_96 h_r_X11_reads h_r_X11_readsItems h_r_X11_readsRecord hq8)))))))) (fun _ => PF.none))))))) (fun _ => (PF.ite (fun _ => (wf_X11_reads_157 h_r_X11_reads h_r_X11_readsItems h_r_X11_readsRecord h)) (fun _ => (PF.ite (fun _ => (PF.ite (fun _ => (PF.bnd (wf_T_X11_chosen h) (fun q3 hq3 => (wf_X11_reads_158 h_r_X11_reads h_r_X11_readsItems h_r_X11_readsRecord hq3)))) (fun _ => (wf_X11_reads_157 h_r_X11_reads h_r_X11_readsItems h_r_X11_readsRecord h)))) (fun _ => PF.none))))))) (fun _ => PF.none))) (fun _ => (PF.bnd (wf_X11_fails  h) (fun q12 hq12 => (PF.ite (fun _ => (PF.ret1 hq12)) (fun _ => PF.none))))))
theorem wf_X11_readsItems_64 {s : ST} {r_X11_reads : Int32 → Int32 → Int32 → Int32 → Int32 → ST → Option (Int32 × ST)} {r_X11_readsItems : Int32 → Int32 → Int32 → Int32 → ST → Option (Int32 × ST)} {r_X11_readsRecord : Int32 → Int32 → Int32 → Int32 → ST → Option (Int32 × ST)} {k27 : Int32 → Int32 → Int32 → Int32 → Int32 → Int32 → ST → Option (Int32 × ST)} {x1 : Int32} {x2 : Int32} {x3 : Int32} {x4 : Int32} {x5 : Int32} {x6 : Int32} {y0 : Int32} {y1 : Int32} {σ : ST} (h_r_X11_reads : ∀ (x1 : Int32) (x2 : Int32) (x3 : Int32) (x4 : Int32) (x5 : Int32) (σ : ST), K27 s σ → PF st1 (K27 s) (r_X11_reads x1 x2 x3 x4 x5 σ)) (h_r_X11_readsItems : ∀ (x1 : Int32) (x2 : Int32) (x3 : Int32) (x4 : Int32) (σ : ST), K27 s σ → PF st1 (K27 s) (r_X11_readsItems x1 x2 x3 x4 σ)) (h_r_X11_readsRecord : ∀ (x1 : Int32) (x2 : Int32) (x3 : Int32) (x4 : Int32) (σ : ST), K27 s σ → PF st1 (K27 s) (r_X11_readsRecord x1 x2 x3 x4 σ)) (h_k27 : ∀ (x1 : Int32) (x2 : Int32) (x3 : Int32) (x4 : Int32) (x5 : Int32) (x6 : Int32) (σ : ST), K27 s σ → PF st1 (K27 s) (k27 x1 x2 x3 x4 x5 x6 σ))  (h : K27 s σ) : PF st1 (K27 s) (f_X11_readsItems_64 r_X11_reads r_X11_readsItems r_X11_readsRecord k27 x1 x2 x3 x4 x5 x6 y0 y1 σ) := by
  unfold f_X11_readsItems_64
  exact (PF.bnd (h_r_X11_reads _ _ _ _ _ _ h) (fun q1 hq1 => (PF.ite (fun _ => (PF.ret1 hq1)) (fun _ => (h_k27 _ _ _ _ _ _ _ (K27.i (by first | exact .inl (by decide) | exact .inr (.inl (by decide)) | exact .inr (.inr (by decide))) hq1))))))
theorem wf_X11_readsItems_27 {s : ST} {r_X11_reads : Int32 → Int32 → Int32 → Int32 → Int32 → ST → Option (Int32 × ST)} {r_X11_readsItems : Int32 → Int32 → Int32 → Int32 → ST → Option (Int32 × ST)} {r_X11_readsRecord : Int32 → Int32 → Int32 → Int32 → ST → Option (Int32 × ST)} (h_r_X11_reads : ∀ (x1 : Int32) (x2 : Int32) (x3 : Int32) (x4 : Int32) (x5 : Int32) (σ : ST), K27 s σ → PF st1 (K27 s) (r_X11_reads x1 x2 x3 x4 x5 σ)) (h_r_X11_readsItems : ∀ (x1 : Int32) (x2 : Int32) (x3 : Int32) (x4 : Int32) (σ : ST), K27 s σ → PF st1 (K27 s) (r_X11_readsItems x1 x2 x3 x4 σ)) (h_r_X11_readsRecord : ∀ (x1 : Int32) (x2 : Int32) (x3 : Int32) (x4 : Int32) (σ : ST), K27 s σ → PF st1 (K27 s) (r_X11_readsRecord x1 x2 x3 x4 σ))  : ∀ (n : Nat) (x1 : Int32) (x2 : Int32) (x3 : Int32) (x4 : Int32) (x5 : Int32) (x6 : Int32) (σ : ST), K27 s σ → PF st1 (K27 s) (f_X11_readsItems_27 r_X11_reads r_X11_readsItems r_X11_readsRecord n x1 x2 x3 x4 x5 x6 σ) := by
  intro n
  induction n with
  | zero => intro x1 x2 x3 x4 x5 x6 σ h; rw [f_X11_readsItems_27]; exact PF.none
  | succ n ih =>
    intro x1 x2 x3 x4 x5 x6 σ h
    rw [f_X11_readsItems_27]
    exact (PF.ite (fun _ => (PF.ret1 h)) (fun _ => (PF.bnd (wf_X11_enters  h) (fun q1 hq1 => (PF.ite (fun _ => (PF.ite (fun _ => (PF.ite (fun _ => (wf_X11_readsItems_64 h_r_X11_reads h_r_X11_readsItems h_r_X11_readsRecord ih hq1)) (fun _ => PF.none))) (fun _ => (wf_X11_readsItems_64 h_r_X11_reads h_r_X11_readsItems h_r_X11_readsRecord ih hq1)))) (fun _ => PF.none))))))
theorem wf_X11_readsItems {s : ST} {r_X11_reads : Int32 → Int32 → Int32 → Int32 → Int32 → ST → Option (Int32 × ST)} {r_X11_readsItems : Int32 → Int32 → Int32 → Int32 → ST → Option (Int32 × ST)} {r_X11_readsRecord : Int32 → Int32 → Int32 → Int32 → ST → Option (Int32 × ST)} {p0 : Int32} {p1 : Int32} {p2 : Int32} {p3 : Int32} {σ : ST} (h_r_X11_reads : ∀ (x1 : Int32) (x2 : Int32) (x3 : Int32) (x4 : Int32) (x5 : Int32) (σ : ST), K27 s σ → PF st1 (K27 s) (r_X11_reads x1 x2 x3 x4 x5 σ)) (h_r_X11_readsItems : ∀ (x1 : Int32) (x2 : Int32) (x3 : Int32) (x4 : Int32) (σ : ST), K27 s σ → PF st1 (K27 s) (r_X11_readsItems x1 x2 x3 x4 σ)) (h_r_X11_readsRecord : ∀ (x1 : Int32) (x2 : Int32) (x3 : Int32) (x4 : Int32) (σ : ST), K27 s σ → PF st1 (K27 s) (r_X11_readsRecord x1 x2 x3 x4 σ))  (h : K27 s σ) : PF st1 (K27 s) (f_X11_readsItems r_X11_reads r_X11_readsItems r_X11_readsRecord p0 p1 p2 p3 σ) := by
  unfold f_X11_readsItems
  exact (PF.bnd (wf_X11_readsInt  h) (fun q1 hq1 => (PF.ite (fun _ => (PF.ret1 hq1)) (fun _ => (wf_X11_readsItems_27 h_r_X11_reads h_r_X11_readsItems h_r_X11_readsRecord _ _ _ _ _ _ _ _ hq1)))))
theorem wf_X11_readsRecord_286 {s : ST} {r_X11_reads : Int32 → Int32 → Int32 → Int32 → Int32 → ST → Option (Int32 × ST)} {r_X11_readsItems : Int32 → Int32 → Int32 → Int32 → ST → Option (Int32 × ST)} {r_X11_readsRecord : Int32 → Int32 → Int32 → Int32 → ST → Option (Int32 × ST)} {k217 : Int32 → Int32 → Int32 → Int32 → Int32 → ST → Option (Int32 × ST)} {x1 : Int32} {x2 : Int32} {x4 : Int32} {x6 : Int32} {x7 : Int32} {σ : ST} (h_r_X11_reads : ∀ (x1 : Int32) (x2 : Int32) (x3 : Int32) (x4 : Int32) (x5 : Int32) (σ : ST), K27 s σ → PF st1 (K27 s) (r_X11_reads x1 x2 x3 x4 x5 σ)) (h_r_X11_readsItems : ∀ (x1 : Int32) (x2 : Int32) (x3 : Int32) (x4 : Int32) (σ : ST), K27 s σ → PF st1 (K27 s) (r_X11_readsItems x1 x2 x3 x4 σ)) (h_r_X11_readsRecord : ∀ (x1 : Int32) (x2 : Int32) (x3 : Int32) (x4 : Int32) (σ : ST), K27 s σ → PF st1 (K27 s) (r_X11_readsRecord x1 x2 x3 x4 σ)) (h_k217 : ∀ (x1 : Int32) (x2 : Int32) (x3 : Int32) (x4 : Int32) (x5 : Int32) (σ : ST), K27 s σ → PF st1 (K27 s) (k217 x1 x2 x3 x4 x5 σ))  (h : K27 s σ) : PF st1 (K27 s) (f_X11_readsRecord_286 r_X11_reads r_X11_readsItems r_X11_readsRecord k217 x1 x2 x4 x6 x7 σ) := by
  unfold f_X11_readsRecord_286
  exact (h_k217 _ _ _ _ _ _ h)
theorem wf_X11_readsRecord_217 {s : ST} {r_X11_reads : Int32 → Int32 → Int32 → Int32 → Int32 → ST → Option (Int32 × ST)} {r_X11_readsItems : Int32 → Int32 → Int32 → Int32 → ST → Option (Int32 × ST)} {r_X11_readsRecord : Int32 → Int32 → Int32 → Int32 → ST → Option (Int32 × ST)} (h_r_X11_reads : ∀ (x1 : Int32) (x2 : Int32) (x3 : Int32) (x4 : Int32) (x5 : Int32) (σ : ST), K27 s σ → PF st1 (K27 s) (r_X11_reads x1 x2 x3 x4 x5 σ)) (h_r_X11_readsItems : ∀ (x1 : Int32) (x2 : Int32) (x3 : Int32) (x4 : Int32) (σ : ST), K27 s σ → PF st1 (K27 s) (r_X11_readsItems x1 x2 x3 x4 σ)) (h_r_X11_readsRecord : ∀ (x1 : Int32) (x2 : Int32) (x3 : Int32) (x4 : Int32) (σ : ST), K27 s σ → PF st1 (K27 s) (r_X11_readsRecord x1 x2 x3 x4 σ))  : ∀ (n : Nat) (x1 : Int32) (x2 : Int32) (x3 : Int32) (x4 : Int32) (x5 : Int32) (σ : ST), K27 s σ → PF st1 (K27 s) (f_X11_readsRecord_217 r_X11_reads r_X11_readsItems r_X11_readsRecord n x1 x2 x3 x4 x5 σ) := by
  intro n
  induction n with
  | zero => intro x1 x2 x3 x4 x5 σ h; rw [f_X11_readsRecord_217]; exact PF.none
  | succ n ih =>
    intro x1 x2 x3 x4 x5 σ h
    rw [f_X11_readsRecord_217]
    exact (PF.ite (fun _ => (PF.ret1 h)) (fun _ => (PF.ite (fun _ => (PF.ite (fun _ => (PF.ret1 h)) (fun _ => (PF.ite (fun _ => (PF.bnd (wf_X11_fieldFor  h) (fun q3 hq3 => (PF.ite (fun _ => (wf_X11_readsRecord_286 h_r_X11_reads h_r_X11_readsItems h_r_X11_readsRecord ih hq3)) (fun _ => (PF.ite (fun _ => (PF.bnd (wf_X11_fails  hq3) (fun q7 hq7 => (PF.ite (fun _ => (PF.ret1 hq7)) (fun _ => PF.none))))) (fun _ => (PF.bnd (wf_X11_fills  hq3) (fun q5 hq5 => (wf_X11_readsRecord_286 h_r_X11_reads h_r_X11_readsItems h_r_X11_readsRecord ih hq5)))))))))) (fun _ => PF.none))))) (fun _ => PF.none))))
theorem wf_X11_readsRecord_198 {s : ST} {r_X11_reads : Int32 → Int32 → Int32 → Int32 → Int32 → ST → Option (Int32 × ST)} {r_X11_readsItems : Int32 → Int32 → Int32 → Int32 → ST → Option (Int32 × ST)} {r_X11_readsRecord : Int32 → Int32 → Int32 → Int32 → ST → Option (Int32 × ST)} {k43 : Int32 → Int32 → Int32 → Int32 → Int32 → Int32 → Int32 → ST → Option (Int32 × ST)} {x1 : Int32} {x2 : Int32} {x3 : Int32} {x4 : Int32} {x5 : Int32} {x6 : Int32} {x7 : Int32} {σ : ST} (h_r_X11_reads : ∀ (x1 : Int32) (x2 : Int32) (x3 : Int32) (x4 : Int32) (x5 : Int32) (σ : ST), K27 s σ → PF st1 (K27 s) (r_X11_reads x1 x2 x3 x4 x5 σ)) (h_r_X11_readsItems : ∀ (x1 : Int32) (x2 : Int32) (x3 : Int32) (x4 : Int32) (σ : ST), K27 s σ → PF st1 (K27 s) (r_X11_readsItems x1 x2 x3 x4 σ)) (h_r_X11_readsRecord : ∀ (x1 : Int32) (x2 : Int32) (x3 : Int32) (x4 : Int32) (σ : ST), K27 s σ → PF st1 (K27 s) (r_X11_readsRecord x1 x2 x3 x4 σ)) (h_k43 : ∀ (x1 : Int32) (x2 : Int32) (x3 : Int32) (x4 : Int32) (x5 : Int32) (x6 : Int32) (x7 : Int32) (σ : ST), K27 s σ → PF st1 (K27 s) (k43 x1 x2 x3 x4 x5 x6 x7 σ))  (h : K27 s σ) : PF st1 (K27 s) (f_X11_readsRecord_198 r_X11_reads r_X11_readsItems r_X11_readsRecord k43 x1 x2 x3 x4 x5 x6 x7 σ) := by
  unfold f_X11_readsRecord_198
  exact (h_k43 _ _ _ _ _ _ _ _ (K27.i (by first | exact .inl (by decide) | exact .inr (.inl (by decide)) | exact .inr (.inr (by decide))) h))
theorem wf_X11_readsRecord_171 {s : ST} {r_X11_reads : Int32 → Int32 → Int32 → Int32 → Int32 → ST → Option (Int32 × ST)} {r_X11_readsItems : Int32 → Int32 → Int32 → Int32 → ST → Option (Int32 × ST)} {r_X11_readsRecord : Int32 → Int32 → Int32 → Int32 → ST → Option (Int32 × ST)} {k43 : Int32 → Int32 → Int32 → Int32 → Int32 → Int32 → Int32 → ST → Option (Int32 × ST)} {x1 : Int32} {x2 : Int32} {x3 : Int32} {x4 : Int32} {x5 : Int32} {x6 : Int32} {x7 : Int32} {x8 : Int32} {x10 : Int32} {σ : ST} (h_r_X11_reads : ∀ (x1 : Int32) (x2 : Int32) (x3 : Int32) (x4 : Int32) (x5 : Int32) (σ : ST), K27 s σ → PF st1 (K27 s) (r_X11_reads x1 x2 x3 x4 x5 σ)) (h_r_X11_readsItems : ∀ (x1 : Int32) (x2 : Int32) (x3 : Int32) (x4 : Int32) (σ : ST), K27 s σ → PF st1 (K27 s) (r_X11_readsItems x1 x2 x3 x4 σ)) (h_r_X11_readsRecord : ∀ (x1 : Int32) (x2 : Int32) (x3 : Int32) (x4 : Int32) (σ : ST), K27 s σ → PF st1 (K27 s) (r_X11_readsRecord x1 x2 x3 x4 σ)) (h_k43 : ∀ (x1 : Int32) (x2 : Int32) (x3 : Int32) (x4 : Int32) (x5 : Int32) (x6 : Int32) (x7 : Int32) (σ : ST), K27 s σ → PF st1 (K27 s) (k43 x1 x2 x3 x4 x5 x6 x7 σ))  (h : K27 s σ) : PF st1 (K27 s) (f_X11_readsRecord_171 r_X11_reads r_X11_readsItems r_X11_readsRecord k43 x1 x2 x3 x4 x5 x6 x7 x8 x10 σ) := by
  unfold f_X11_readsRecord_171
  exact (PF.ite (fun _ => (PF.ite (fun _ => (PF.bnd (h_r_X11_reads _ _ _ _ _ _ h) (fun q2 hq2 => (PF.ite (fun _ => (PF.ret1 hq2)) (fun _ => (wf_X11_readsRecord_198 h_r_X11_reads h_r_X11_readsItems h_r_X11_readsRecord h_k43 hq2)))))) (fun _ => PF.none))) (fun _ => (wf_X11_readsRecord_198 h_r_X11_reads h_r_X11_readsItems h_r_X11_readsRecord h_k43 h)))
theorem wf_X11_readsRecord_165 {s : ST} {r_X11_reads : Int32 → Int32 → Int32 → Int32 → Int32 → ST → Option (Int32 × ST)} {r_X11_readsItems : Int32 → Int32 → Int32 → Int32 → ST → Option (Int32 × ST)} {r_X11_readsRecord : Int32 → Int32 → Int32 → Int32 → ST → Option (Int32 × ST)} {k43 : Int32 → Int32 → Int32 → Int32 → Int32 → Int32 → Int32 → ST → Option (Int32 × ST)} {k83 : Int32 → Int32 → Int32 → Int32 → Int32 → Int32 → Int32 → Int32 → Int32 → Int32 → Int32 → ST → Option (Int32 × ST)} {x1 : Int32} {x2 : Int32} {x3 : Int32} {x4 : Int32} {x5 : Int32} {x6 : Int32} {x7 : Int32} {x8 : Int32} {x9 : Int32} {x10 : Int32} {x11 : Int32} {σ : ST} (h_r_X11_reads : ∀ (x1 : Int32) (x2 : Int32) (x3 : Int32) (x4 : Int32) (x5 : Int32) (σ : ST), K27 s σ → PF st1 (K27 s) (r_X11_reads x1 x2 x3 x4 x5 σ)) (h_r_X11_readsItems : ∀ (x1 : Int32) (x2 : Int32) (x3 : Int32) (x4 : Int32) (σ : ST), K27 s σ → PF st1 (K27 s) (r_X11_readsItems x1 x2 x3 x4 σ)) (h_r_X11_readsRecord : ∀ (x1 : Int32) (x2 : Int32) (x3 : Int32) (x4 : Int32) (σ : ST), K27 s σ → PF st1 (K27 s) (r_X11_readsRecord x1 x2 x3 x4 σ)) (h_k43 : ∀ (x1 : Int32) (x2 : Int32) (x3 : Int32) (x4 : Int32) (x5 : Int32) (x6 : Int32) (x7 : Int32) (σ : ST), K27 s σ → PF st1 (K27 s) (k43 x1 x2 x3 x4 x5 x6 x7 σ)) (h_k83 : ∀ (x1 : Int32) (x2 : Int32) (x3 : Int32) (x4 : Int32) (x5 : Int32) (x6 : Int32) (x7 : Int32) (x8 : Int32) (x9 : Int32) (x10 : Int32) (x11 : Int32) (σ : ST), K27 s σ → PF st1 (K27 s) (k83 x1 x2 x3 x4 x5 x6 x7 x8 x9 x10 x11 σ))  (h : K27 s σ) : PF st1 (K27 s) (f_X11_readsRecord_165 r_X11_reads r_X11_readsItems r_X11_readsRecord k43 k83 x1 x2 x3 x4 x5 x6 x7 x8 x9 x10 x11 σ) := by
  unfold f_X11_readsRecord_165
  exact (h_k83 _ _ _ _ _ _ _ _ _ _ _ _ h)
theorem wf_X11_readsRecord_83 {s : ST} {r_X11_reads : Int32 → Int32 → Int32 → Int32 → Int32 → ST → Option (Int32 × ST)} {r_X11_readsItems : Int32 → Int32 → Int32 → Int32 → ST → Option (Int32 × ST)} {r_X11_readsRecord : Int32 → Int32 → Int32 → Int32 → ST → Option (Int32 × ST)} {k43 : Int32 → Int32 → Int32 → Int32 → Int32 → Int32 → Int32 → ST → Option (Int32 × ST)} (h_r_X11_reads : ∀ (x1 : Int32) (x2 : Int32) (x3 : Int32) (x4 : Int32) (x5 : Int32) (σ : ST), K27 s σ → PF st1 (K27 s) (r_X11_reads x1 x2 x3 x4 x5 σ)) (h_r_X11_readsItems : ∀ (x1 : Int32) (x2 : Int32) (x3 : Int32) (x4 : Int32) (σ : ST), K27 s σ → PF st1 (K27 s) (r_X11_readsItems x1 x2 x3 x4 σ)) (h_r_X11_readsRecord : ∀ (x1 : Int32) (x2 : Int32) (x3 : Int32) (x4 : Int32) (σ : ST), K27 s σ → PF st1 (K27 s) (r_X11_readsRecord x1 x2 x3 x4 σ)) (h_k43 : ∀ (x1 : Int32) (x2 : Int32) (x3 : Int32) (x4 : Int32) (x5 : Int32) (x6 : Int32) (x7 : Int32) (σ : ST), K27 s σ → PF st1 (K27 s) (k43 x1 x2 x3 x4 x5 x6 x7 σ))  : ∀ (n : Nat) (x1 : Int32) (x2 : Int32) (x3 : Int32) (x4 : Int32) (x5 : Int32) (x6 : Int32) (x7 : Int32) (x8 : Int32) (x9 : Int32) (x10 : Int32) (x11 : Int32) (σ : ST), K27 s σ → PF st1 (K27 s) (f_X11_readsRecord_83 r_X11_reads r_X11_readsItems r_X11_readsRecord k43 n x1 x2 x3 x4 x5 x6 x7 x8 x9 x10 x11 σ) := by
  intro n
  induction n with
  | zero => intro x1 x2 x3 x4 x5 x6 x7 x8 x9 x10 x11 σ h; rw [f_X11_readsRecord_83]; exact PF.none
  | succ n ih =>
    intro x1 x2 x3 x4 x5 x6 x7 x8 x9 x10 x11 σ h
    rw [f_X11_readsRecord_83]
    exact (PF.ite (fun _ => (wf_X11_readsRecord_171 h_r_X11_reads h_r_X11_readsItems h_r_X11_readsRecord h_k43 h)) (fun _ => (PF.ite (fun _ => (PF.ite (fun _ => (wf_X11_readsRecord_171 h_r_X11_reads h_r_X11_readsItems h_r_X11_readsRecord h_k43 h)) (fun _ => (PF.ite (fun _ => (PF.bnd (wf_X11_fieldFor  h) (fun q3 hq3 => (PF.ite (fun _ => (PF.ite (fun _ => (PF.ite (fun _ => (PF.bnd (h_r_X11_reads _ _ _ _ _ _ (K27.i (by first | exact .inl (by decide) | exact .inr (.inl (by decide)) | exact .inr (.inr (by decide))) hq3)) (fun q7 hq7 => (PF.ite (fun _ => (PF.ret1 hq7)) (fun _ => (wf_X11_readsRecord_165 h_r_X11_reads h_r_X11_readsItems h_r_X11_readsRecord h_k43 ih hq7)))))) (fun _ => PF.none))) (fun _ => PF.none))) (fun _ => (wf_X11_readsRecord_165 h_r_X11_reads h_r_X11_readsItems h_r_X11_readsRecord h_k43 ih hq3)))))) (fun _ => PF.none))))) (fun _ => PF.none))))
theorem wf_X11_readsRecord_43 {s : ST} {r_X11_reads : Int32 → Int32 → Int32 → Int32 → Int32 → ST → Option (Int32 × ST)} {r_X11_readsItems : Int32 → Int32 → Int32 → Int32 → ST → Option (Int32 × ST)} {r_X11_readsRecord : Int32 → Int32 → Int32 → Int32 → ST → Option (Int32 × ST)} (h_r_X11_reads : ∀ (x1 : Int32) (x2 : Int32) (x3 : Int32) (x4 : Int32) (x5 : Int32) (σ : ST), K27 s σ → PF st1 (K27 s) (r_X11_reads x1 x2 x3 x4 x5 σ)) (h_r_X11_readsItems : ∀ (x1 : Int32) (x2 : Int32) (x3 : Int32) (x4 : Int32) (σ : ST), K27 s σ → PF st1 (K27 s) (r_X11_readsItems x1 x2 x3 x4 σ)) (h_r_X11_readsRecord : ∀ (x1 : Int32) (x2 : Int32) (x3 : Int32) (x4 : Int32) (σ : ST), K27 s σ → PF st1 (K27 s) (r_X11_readsRecord x1 x2 x3 x4 σ))  : ∀ (n : Nat) (x1 : Int32) (x2 : Int32) (x3 : Int32) (x4 : Int32) (x5 : Int32) (x6 : Int32) (x7 : Int32) (σ : ST), K27 s σ → PF st1 (K27 s) (f_X11_readsRecord_43 r_X11_reads r_X11_readsItems r_X11_readsRecord n x1 x2 x3 x4 x5 x6 x7 σ) := by
  intro n
  induction n with
  | zero => intro x1 x2 x3 x4 x5 x6 x7 σ h; rw [f_X11_readsRecord_43]; exact PF.none
  | succ n ih =>
    intro x1 x2 x3 x4 x5 x6 x7 σ h
    rw [f_X11_readsRecord_43]
    exact (PF.ite (fun _ => (PF.ite (fun _ => (wf_X11_readsRecord_217 h_r_X11_reads h_r_X11_readsItems h_r_X11_readsRecord _ _ _ _ _ _ _ h)) (fun _ => (PF.bnd (wf_X11_enters  h) (fun q2 hq2 => (wf_X11_readsRecord_83 h_r_X11_reads h_r_X11_readsItems h_r_X11_readsRecord ih _ _ _ _ _ _ _ _ _ _ _ _ _ hq2)))))) (fun _ => PF.none))
theorem wf_X11_readsRecord_38 {s : ST} {r_X11_reads : Int32 → Int32 → Int32 → Int32 → Int32 → ST → Option (Int32 × ST)} {r_X11_readsItems : Int32 → Int32 → Int32 → Int32 → ST → Option (Int32 × ST)} {r_X11_readsRecord : Int32 → Int32 → Int32 → Int32 → ST → Option (Int32 × ST)} {x1 : Int32} {x2 : Int32} {x3 : Int32} {x4 : Int32} {x5 : Int32} {y0 : Int32} {σ : ST} (h_r_X11_reads : ∀ (x1 : Int32) (x2 : Int32) (x3 : Int32) (x4 : Int32) (x5 : Int32) (σ : ST), K27 s σ → PF st1 (K27 s) (r_X11_reads x1 x2 x3 x4 x5 σ)) (h_r_X11_readsItems : ∀ (x1 : Int32) (x2 : Int32) (x3 : Int32) (x4 : Int32) (σ : ST), K27 s σ → PF st1 (K27 s) (r_X11_readsItems x1 x2 x3 x4 σ)) (h_r_X11_readsRecord : ∀ (x1 : Int32) (x2 : Int32) (x3 : Int32) (x4 : Int32) (σ : ST), K27 s σ → PF st1 (K27 s) (r_X11_readsRecord x1 x2 x3 x4 σ))  (h : K27 s σ) : PF st1 (K27 s) (f_X11_readsRecord_38 r_X11_reads r_X11_readsItems r_X11_readsRecord x1 x2 x3 x4 x5 y0 σ) := by
  unfold f_X11_readsRecord_38
  exact (wf_X11_readsRecord_43 h_r_X11_reads h_r_X11_readsItems h_r_X11_readsRecord _ _ _ _ _ _ _ _ _ h)
theorem wf_X11_readsRecord {s : ST} {r_X11_reads : Int32 → Int32 → Int32 → Int32 → Int32 → ST → Option (Int32 × ST)} {r_X11_readsItems : Int32 → Int32 → Int32 → Int32 → ST → Option (Int32 × ST)} {r_X11_readsRecord : Int32 → Int32 → Int32 → Int32 → ST → Option (Int32 × ST)} {p0 : Int32} {p1 : Int32} {p2 : Int32} {p3 : Int32} {σ : ST} (h_r_X11_reads : ∀ (x1 : Int32) (x2 : Int32) (x3 : Int32) (x4 : Int32) (x5 : Int32) (σ : ST), K27 s σ → PF st1 (K27 s) (r_X11_reads x1 x2 x3 x4 x5 σ)) (h_r_X11_readsItems : ∀ (x1 : Int32) (x2 : Int32) (x3 : Int32) (x4 : Int32) (σ : ST), K27 s σ → PF st1 (K27 s) (r_X11_readsItems x1 x2 x3 x4 σ)) (h_r_X11_readsRecord : ∀ (x1 : Int32) (x2 : Int32) (x3 : Int32) (x4 : Int32) (σ : ST), K27 s σ → PF st1 (K27 s) (r_X11_readsRecord x1 x2 x3 x4 σ))  (h : K27 s σ) : PF st1 (K27 s) (f_X11_readsRecord r_X11_reads r_X11_readsItems r_X11_readsRecord p0 p1 p2 p3 σ) := by
  unfold f_X11_readsRecord
  exact (PF.ite (fun _ => (PF.ite (fun _ => (PF.ite (fun _ => (wf_X11_readsRecord_38 h_r_X11_reads h_r_X11_readsItems h_r_X11_readsRecord h)) (fun _ => PF.none))) (fun _ => (wf_X11_readsRecord_38 h_r_X11_reads h_r_X11_readsItems h_r_X11_readsRecord h)))) (fun _ => PF.none))
theorem wfR_X11_reads {s : ST} : ∀ n : Nat, (∀ (p0 : Int32) (p1 : Int32) (p2 : Int32) (p3 : Int32) (p4 : Int32) (σ : ST), K27 s σ → PF st1 (K27 s) ((R_X11_reads n).1 p0 p1 p2 p3 p4 σ)) ∧ (∀ (p0 : Int32) (p1 : Int32) (p2 : Int32) (p3 : Int32) (σ : ST), K27 s σ → PF st1 (K27 s) ((R_X11_reads n).2.1 p0 p1 p2 p3 σ)) ∧ (∀ (p0 : Int32) (p1 : Int32) (p2 : Int32) (p3 : Int32) (σ : ST), K27 s σ → PF st1 (K27 s) ((R_X11_reads n).2.2 p0 p1 p2 p3 σ)) := by
  intro n
  induction n with
  | zero => exact ⟨fun _ _ _ _ _ _ _ => PF.none, fun _ _ _ _ _ _ => PF.none, fun _ _ _ _ _ _ => PF.none⟩
  | succ n ih => exact ⟨fun _ _ _ _ _ _ h => wf_X11_reads (ih.1) (ih.2.1) (ih.2.2)  h, fun _ _ _ _ _ h => wf_X11_readsItems (ih.1) (ih.2.1) (ih.2.2)  h, fun _ _ _ _ _ h => wf_X11_readsRecord (ih.1) (ih.2.1) (ih.2.2)  h⟩
theorem wf_T_X11_reads {s : ST} {p0 : Int32} {p1 : Int32} {p2 : Int32} {p3 : Int32} {p4 : Int32} {σ : ST} (h : K27 s σ) : PF st1 (K27 s) (f_T_X11_reads p0 p1 p2 p3 p4 σ) := (wfR_X11_reads FRB).1 _ _ _ _ _ _  h
theorem wf_X11_readsAll_106 {s : ST} {x4 : Int32} {σ : ST}   (h : K27 s σ) : PF st1 (K27 s) (f_X11_readsAll_106 x4 σ) := by
  unfold f_X11_readsAll_106
  exact (PF.ite (fun _ => (PF.ret1 h)) (fun _ => (PF.ret1 h)))
theorem wf_X11_readsAll {s : ST} {p0 : Int32} {p1 : Int32} {σ : ST}   (h : K27 s σ) : PF st1 (K27 s) (f_X11_readsAll p0 p1 σ) := by
  unfold f_X11_readsAll
  exact (PF.ite (fun _ => (PF.bnd (wf_X11_laysPairs  h) (fun q2 hq2 => (PF.ite (fun _ => (PF.ret1 (K27.i (by first | exact .inl (by decide) | exact .inr (.inl (by decide)) | exact .inr (.inr (by decide))) hq2))) (fun _ => (PF.bnd (PF.ret0 (K27.i (by first | exact .inl (by decide) | exact .inr (.inl (by decide)) | exact .inr (.inr (by decide))) (K27.i (by first | exact .inl (by decide) | exact .inr (.inl (by decide)) | exact .inr (.inr (by decide))) (K27.i (by first | exact .inl (by decide) | exact .inr (.inl (by decide)) | exact .inr (.inr (by decide))) (K27.i (by first | exact .inl (by decide) | exact .inr (.inl (by decide)) | exact .inr (.inr (by decide))) hq2))))) (fun z4 hz4 => (PF.bnd (wf_X11_rootType (K27.i (by first | exact .inl (by decide) | exact .inr (.inl (by decide)) | exact .inr (.inr (by decide))) (K27.i (by first | exact .inl (by decide) | exact .inr (.inl (by decide)) | exact .inr (.inr (by decide))) hz4))) (fun q5 hq5 => (PF.bnd (wf_T_X11_reads hq5) (fun q7 hq7 => (PF.ite (fun _ => (wf_X11_readsAll_106  hq7)) (fun _ => (PF.ite (fun _ => (wf_X11_readsAll_106  hq7)) (fun _ => (PF.bnd (wf_X11_fails  hq7) (fun q9 hq9 => (wf_X11_readsAll_106  hq9)))))))))))))))))) (fun _ => PF.none))
theorem wf_X11_tells_110 {s : ST} {r_X11_tells : Int32 → Int32 → ST → Option (ST)} (h_r_X11_tells : ∀ (x1 : Int32) (x2 : Int32) (σ : ST), K27 s σ → PF st0 (K27 s) (r_X11_tells x1 x2 σ))  : ∀ (n : Nat) (x1 : Int32) (x2 : Int32) (σ : ST), K27 s σ → PF st0 (K27 s) (f_X11_tells_110 r_X11_tells n x1 x2 σ) := by
  intro n
  induction n with
  | zero => intro x1 x2 σ h; rw [f_X11_tells_110]; exact PF.none
  | succ n ih =>
    intro x1 x2 σ h
    rw [f_X11_tells_110]
    exact (PF.ite (fun _ => (PF.ret0 h)) (fun _ => (PF.bnd (h_r_X11_tells _ _ _ h) (fun q1 hq1 => (PF.ite (fun _ => (ih _ _ _ hq1)) (fun _ => PF.none))))))
theorem wf_X11_tells_53 {s : ST} {r_X11_tells : Int32 → Int32 → ST → Option (ST)} {x1 : Int32} {x3 : Int32} {y0 : Int32} {y1 : Int32} {σ : ST} (h_r_X11_tells : ∀ (x1 : Int32) (x2 : Int32) (σ : ST), K27 s σ → PF st0 (K27 s) (r_X11_tells x1 x2 σ))  (h : K27 s σ) : PF st0 (K27 s) (f_X11_tells_53 r_X11_tells x1 x3 y0 y1 σ) := by
  unfold f_X11_tells_53
  exact (PF.ite (fun _ => (PF.ite (fun _ => (PF.ite (fun _ => (PF.bnd (PF.ret0 (K27.i (by first | exact .inl (by decide) | exact .inr (.inl (by decide)) | exact .inr (.inr (by decide))) (K27.i (by first | exact .inl (by decide) | exact .inr (.inl (by decide)) | exact .inr (.inr (by decide))) h))) (fun z4 hz4 => (PF.bnd (PF.ret0 (K27.l (K27.i (by first | exact .inl (by decide) | exact .inr (.inl (by decide)) | exact .inr (.inr (by decide))) hz4))) (fun z5 hz5 => (PF.val (wf_X11_tells_110 h_r_X11_tells _ _ _ _ (K27.l hz5)))))))) (fun _ => PF.none))) (fun _ => PF.none))) (fun _ => PF.none))
theorem wf_X11_tells {s : ST} {r_X11_tells : Int32 → Int32 → ST → Option (ST)} {p0 : Int32} {p1 : Int32} {σ : ST} (h_r_X11_tells : ∀ (x1 : Int32) (x2 : Int32) (σ : ST), K27 s σ → PF st0 (K27 s) (r_X11_tells x1 x2 σ))  (h : K27 s σ) : PF st0 (K27 s) (f_X11_tells r_X11_tells p0 p1 σ) := by
  unfold f_X11_tells
  exact (PF.ite (fun _ => (PF.ite (fun _ => (PF.bnd (PF.ret0 (K27.i (by first | exact .inl (by decide) | exact .inr (.inl (by decide)) | exact .inr (.inr (by decide))) (K27.i (by first | exact .inl (by decide) | exact .inr (.inl (by decide)) | exact .inr (.inr (by decide))) h))) (fun z3 hz3 => (PF.ite (fun _ => (wf_X11_tells_53 h_r_X11_tells (K27.i (by first | exact .inl (by decide) | exact .inr (.inl (by decide)) | exact .inr (.inr (by decide))) hz3))) (fun _ => (wf_X11_tells_53 h_r_X11_tells (K27.i (by first | exact .inl (by decide) | exact .inr (.inl (by decide)) | exact .inr (.inr (by decide))) hz3))))))) (fun _ => PF.none))) (fun _ => PF.none))
theorem wfR_X11_tells {s : ST} : ∀ n : Nat, (∀ (p0 : Int32) (p1 : Int32) (σ : ST), K27 s σ → PF st0 (K27 s) ((R_X11_tells n) p0 p1 σ)) := by
  intro n
  induction n with
  | zero => exact fun _ _ _ _ => PF.none
  | succ n ih => exact fun _ _ _ h => wf_X11_tells ih  h
theorem wf_T_X11_tells {s : ST} {p0 : Int32} {p1 : Int32} {σ : ST} (h : K27 s σ) : PF st0 (K27 s) (f_T_X11_tells p0 p1 σ) := (wfR_X11_tells FRB) _ _ _  h
theorem wf_X11_readsFor_54 {s : ST}    : ∀ (n : Nat) (x1 : Int32) (x2 : Int32) (σ : ST), K27 s σ → PF st1 (K27 s) (f_X11_readsFor_54  n x1 x2 σ) := by
  intro n
  induction n with
  | zero => intro x1 x2 σ h; rw [f_X11_readsFor_54]; exact PF.none
  | succ n ih =>
    intro x1 x2 σ h
    rw [f_X11_readsFor_54]
    exact (PF.ite (fun _ => (PF.ite (fun _ => (PF.bnd (wf_T_X11_tells h) (fun q1 hq1 => (PF.ret1 hq1)))) (fun _ => (PF.ret1 h)))) (fun _ => (PF.ite (fun _ => (ih _ _ _ (K27.i (by first | exact .inl (by decide) | exact .inr (.inl (by decide)) | exact .inr (.inr (by decide))) h))) (fun _ => PF.none))))
theorem wf_X11_readsFor {s : ST} {p0 : Int32} {p1 : Int32} {σ : ST}   (h : K27 s σ) : PF st1 (K27 s) (f_X11_readsFor p0 p1 σ) := by
  unfold f_X11_readsFor
  exact (PF.ite (fun _ => (PF.bnd (wf_X11_uses  h) (fun q2 hq2 => (PF.bnd (wf_X11_readsAll  hq2) (fun q4 hq4 => (PF.bnd (PF.ret0 (K27.i (by first | exact .inl (by decide) | exact .inr (.inl (by decide)) | exact .inr (.inr (by decide))) (K27.i (by first | exact .inl (by decide) | exact .inr (.inl (by decide)) | exact .inr (.inr (by decide))) (K27.i (by first | exact .inl (by decide) | exact .inr (.inl (by decide)) | exact .inr (.inr (by decide))) hq4)))) (fun z6 hz6 => (wf_X11_readsFor_54  _ _ _ _ (K27.i (by first | exact .inl (by decide) | exact .inr (.inl (by decide)) | exact .inr (.inr (by decide))) hz6))))))))) (fun _ => PF.none))
theorem wf_X11_read {s : ST} {p0 : Int32} {p1 : Int32} {σ : ST}   (h : K27 s σ) : PF st1 (K27 s) (f_X11_read p0 p1 σ) := by
  unfold f_X11_read
  exact (PF.bnd (wf_X11_isMessage  (K27.i (by first | exact .inl (by decide) | exact .inr (.inl (by decide)) | exact .inr (.inr (by decide))) h)) (fun q1 hq1 => (PF.ite (fun _ => (PF.ret1 hq1)) (fun _ => (PF.bnd (wf_X11_isPlanAt  hq1) (fun q3 hq3 => (PF.ite (fun _ => (PF.ret1 hq3)) (fun _ => (PF.bnd (wf_X11_readsFor  hq3) (fun q5 hq5 => (PF.ite (fun _ => (PF.ret1 hq5)) (fun _ => (PF.ret1 hq5)))))))))))))
theorem wf_X11_convert {s : ST} {p0 : Int32} {p1 : Int32} {p2 : Int32} {σ : ST}   (h : K27 s σ) : PF st1 (K27 s) (f_X11_convert p0 p1 p2 σ) := by
  unfold f_X11_convert
  exact (PF.bnd (wf_X11_isMessage  (K27.i (by first | exact .inl (by decide) | exact .inr (.inl (by decide)) | exact .inr (.inr (by decide))) h)) (fun q1 hq1 => (PF.ite (fun _ => (PF.ret1 hq1)) (fun _ => (PF.bnd (wf_X11_isPlanAt  hq1) (fun q3 hq3 => (PF.ite (fun _ => (PF.ret1 hq3)) (fun _ => (PF.bnd (wf_X11_within  hq3) (fun q5 hq5 => (PF.ite (fun _ => (PF.ret1 hq5)) (fun _ => (PF.bnd (wf_X11_readsFor  hq5) (fun q7 hq7 => (PF.ite (fun _ => (PF.bnd (wf_X11_writesTree  hq7) (fun q9 hq9 => (PF.ite (fun _ => (PF.bnd (wf_X11_becomes  hq9) (fun q11 hq11 => (PF.ret1 hq11)))) (fun _ => (PF.ret1 hq9)))))) (fun _ => (PF.ret1 hq7)))))))))))))))))
theorem wf_X11_puts_3 {s : ST}    : ∀ (n : Nat) (x1 : Int32) (x2 : Int32) (σ : ST), K27 s σ → PF st0 (K27 s) (f_X11_puts_3  n x1 x2 σ) := by
  intro n
  induction n with
  | zero => intro x1 x2 σ h; rw [f_X11_puts_3]; exact PF.none
  | succ n ih =>
    intro x1 x2 σ h
    rw [f_X11_puts_3]
    exact (PF.ite (fun _ => (PF.ret0 h)) (fun _ => (PF.ite (fun _ => (PF.bnd (PF.ret0 (K27.i (by first | exact .inl (by decide) | exact .inr (.inl (by decide)) | exact .inr (.inr (by decide))) (K27.i (by first | exact .inl (by decide) | exact .inr (.inl (by decide)) | exact .inr (.inr (by decide))) h))) (fun z2 hz2 => (ih _ _ _ hz2)))) (fun _ => PF.none))))
theorem wf_X11_puts {s : ST} {p0 : Int32} {σ : ST}   (h : K27 s σ) : PF st0 (K27 s) (f_X11_puts p0 σ) := by
  unfold f_X11_puts
  exact (wf_X11_puts_3  _ _ _ _ h)
theorem wf_X11_feed {s : ST} {p0 : Int32} {p1 : Int32} {p2 : Int32} {p3 : Int32} {p4 : Int32} {σ : ST}   (h : K27 s σ) : PF st1 (K27 s) (f_X11_feed p0 p1 p2 p3 p4 σ) := by
  unfold f_X11_feed
  exact (PF.ite (fun _ => (PF.bnd (wf_X11_puts  (K27.i (by first | exact .inl (by decide) | exact .inr (.inl (by decide)) | exact .inr (.inr (by decide))) h)) (fun q1 hq1 => (PF.bnd (wf_X11_puts  hq1) (fun q3 hq3 => (PF.bnd (wf_X11_puts  hq3) (fun q5 hq5 => (PF.bnd (wf_X11_puts  hq5) (fun q7 hq7 => (PF.bnd (wf_X11_puts  hq7) (fun q9 hq9 => (PF.ret1 hq9)))))))))))) (fun _ => (PF.ret1 (K27.i (by first | exact .inl (by decide) | exact .inr (.inl (by decide)) | exact .inr (.inr (by decide))) h))))
theorem wf_X11_record_ {s : ST} {p0 : Int32} {p1 : Int32} {p2 : Int32} {σ : ST}   (h : K27 s σ) : PF st1 (K27 s) (f_X11_record_ p0 p1 p2 σ) := by
  unfold f_X11_record_
  exact (PF.bnd (wf_X11_isPlanAt  (K27.i (by first | exact .inl (by decide) | exact .inr (.inl (by decide)) | exact .inr (.inr (by decide))) h)) (fun q1 hq1 => (PF.ite (fun _ => (PF.ret1 hq1)) (fun _ => (PF.ite (fun _ => (PF.ite (fun _ => (PF.ret1 hq1)) (fun _ => PF.none))) (fun _ => (PF.bnd (wf_X11_within  hq1) (fun q3 hq3 => (PF.ite (fun _ => (PF.ret1 hq3)) (fun _ => (PF.ite (fun _ => (PF.bnd (wf_X11_within  hq3) (fun q6 hq6 => (PF.ite (fun _ => (PF.ret1 hq6)) (fun _ => (PF.ite (fun _ => (PF.ite (fun _ => (PF.ret1 hq6)) (fun _ => PF.none))) (fun _ => (PF.ite (fun _ => (PF.ret1 hq6)) (fun _ => PF.none))))))))) (fun _ => PF.none))))))))))))
theorem wf_X11_recordIn_2 {s : ST}    : ∀ (n : Nat) (x1 : Int32) (σ : ST), K27 s σ → PF st1 (K27 s) (f_X11_recordIn_2  n x1 σ) := by
  intro n
  induction n with
  | zero => intro x1 σ h; rw [f_X11_recordIn_2]; exact PF.none
  | succ n ih =>
    intro x1 σ h
    rw [f_X11_recordIn_2]
    exact (PF.ite (fun _ => (PF.ite (fun _ => (ih _ _ h)) (fun _ => (PF.ite (fun _ => (PF.ret1 h)) (fun _ => (PF.ret1 h)))))) (fun _ => PF.none))
theorem wf_X11_recordIn {s : ST} {p0 : Int32} {σ : ST}   (h : K27 s σ) : PF st1 (K27 s) (f_X11_recordIn p0 σ) := by
  unfold f_X11_recordIn
  exact (wf_X11_recordIn_2  _ _ _ h)
theorem wf_X11_field__53 {s : ST} {x3 : Int32} {x4 : Int32} {x5 : Int32} {y0 : Int32} {σ : ST}   (h : K27 s σ) : PF st1 (K27 s) (f_X11_field__53 x3 x4 x5 y0 σ) := by
  unfold f_X11_field__53
  exact (PF.ite (fun _ => (PF.ret1 h)) (fun _ => (PF.ite (fun _ => (PF.bnd (wf_X11_within  h) (fun q2 hq2 => (PF.ite (fun _ => (PF.ret1 hq2)) (fun _ => (PF.ite (fun _ => (PF.ite (fun _ => (PF.ite (fun _ => (PF.ret1 hq2)) (fun _ => PF.none))) (fun _ => PF.none))) (fun _ => (PF.ite (fun _ => (PF.ite (fun _ => (PF.ite (fun _ => (PF.ret1 hq2)) (fun _ => (PF.ret1 hq2)))) (fun _ => PF.none))) (fun _ => (PF.ite (fun _ => (PF.ite (fun _ => (PF.ite (fun _ => (PF.ret1 hq2)) (fun _ => (PF.ret1 hq2)))) (fun _ => PF.none))) (fun _ => (PF.ite (fun _ => (PF.ite (fun _ => (PF.ret1 hq2)) (fun _ => PF.none))) (fun _ => (PF.ite (fun _ => (PF.ite (fun _ => (PF.ite (fun _ => (PF.ret1 hq2)) (fun _ => PF.none))) (fun _ => PF.none))) (fun _ => (PF.ite (fun _ => (PF.ite (fun _ => (PF.bnd (wf_X11_recordIn  hq2) (fun q18 hq18 => (PF.ret1 hq18)))) (fun _ => PF.none))) (fun _ => (PF.ret1 hq2)))))))))))))))))) (fun _ => PF.none))))
theorem wf_X11_field__36 {s : ST} {x1 : Int32} {x2 : Int32} {x3 : Int32} {x4 : Int32} {y0 : Int32} {σ : ST}   (h : K27 s σ) : PF st1 (K27 s) (f_X11_field__36 x1 x2 x3 x4 y0 σ) := by
  unfold f_X11_field__36
  exact (PF.ite (fun _ => (wf_X11_field__53  h)) (fun _ => (wf_X11_field__53  h)))
theorem wf_X11_field__35 {s : ST} {x1 : Int32} {x2 : Int32} {x3 : Int32} {x4 : Int32} {σ : ST}   (h : K27 s σ) : PF st1 (K27 s) (f_X11_field__35 x1 x2 x3 x4 σ) := by
  unfold f_X11_field__35
  exact (wf_X11_field__36  h)
theorem wf_X11_field_ {s : ST} {p0 : Int32} {p1 : Int32} {p2 : Int32} {p3 : Int32} {σ : ST}   (h : K27 s σ) : PF st1 (K27 s) (f_X11_field_ p0 p1 p2 p3 σ) := by
  unfold f_X11_field_
  exact (PF.bnd (wf_X11_isPlanAt  (K27.i (by first | exact .inl (by decide) | exact .inr (.inl (by decide)) | exact .inr (.inr (by decide))) h)) (fun q1 hq1 => (PF.ite (fun _ => (wf_X11_field__35  hq1)) (fun _ => (PF.ite (fun _ => (PF.bnd (wf_X11_within  hq1) (fun q4 hq4 => (PF.ite (fun _ => (wf_X11_field__35  hq4)) (fun _ => (wf_X11_field__36  hq4)))))) (fun _ => PF.none))))))
theorem wf_X11_message {s : ST} {p0 : Int32} {p1 : Int32} {σ : ST}   (h : K27 s σ) : PF st1 (K27 s) (f_X11_message p0 p1 σ) := by
  unfold f_X11_message
  exact (PF.bnd (wf_X11_isMessage  (K27.i (by first | exact .inl (by decide) | exact .inr (.inl (by decide)) | exact .inr (.inr (by decide))) h)) (fun q1 hq1 => (PF.ite (fun _ => (PF.ret1 hq1)) (fun _ => (PF.bnd (wf_X11_within  hq1) (fun q3 hq3 => (PF.ite (fun _ => (PF.ret1 hq3)) (fun _ => (PF.ite (fun _ => (PF.ite (fun _ => (PF.ret1 hq3)) (fun _ => PF.none))) (fun _ => (PF.ite (fun _ => (PF.ret1 hq3)) (fun _ => PF.none))))))))))))
theorem wf_X11_isByte {s : ST} {p0 : Int32} {p1 : Int32} {σ : ST}   (h : K27 s σ) : PF st1 (K27 s) (f_X11_isByte p0 p1 σ) := by
  unfold f_X11_isByte
  exact (PF.bnd (wf_X11_isMessage  h) (fun q1 hq1 => (PF.ite (fun _ => (PF.ret1 hq1)) (fun _ => (PF.ite (fun _ => (PF.bnd (wf_X11_within  hq1) (fun q4 hq4 => (PF.ite (fun _ => (PF.ret1 hq4)) (fun _ => (PF.ret1 hq4)))))) (fun _ => PF.none))))))
theorem wf_X11_byteAt__15 {s : ST} {x1 : Int32} {x2 : Int32} {y0 : Int32} {σ : ST}   (h : K27 s σ) : PF st1 (K27 s) (f_X11_byteAt__15 x1 x2 y0 σ) := by
  unfold f_X11_byteAt__15
  exact (PF.ite (fun _ => (PF.ite (fun _ => (PF.ret1 (K27.i (by first | exact .inl (by decide) | exact .inr (.inl (by decide)) | exact .inr (.inr (by decide))) h))) (fun _ => PF.none))) (fun _ => (PF.ret1 (K27.i (by first | exact .inl (by decide) | exact .inr (.inl (by decide)) | exact .inr (.inr (by decide))) h))))
theorem wf_X11_byteAt_ {s : ST} {p0 : Int32} {p1 : Int32} {σ : ST}   (h : K27 s σ) : PF st1 (K27 s) (f_X11_byteAt_ p0 p1 σ) := by
  unfold f_X11_byteAt_
  exact (PF.bnd (wf_X11_isByte  h) (fun q1 hq1 => (PF.ite (fun _ => (wf_X11_byteAt__15  hq1)) (fun _ => (wf_X11_byteAt__15  hq1)))))
theorem wf_X11_spoil {s : ST} {p0 : Int32} {p1 : Int32} {p2 : Int32} {σ : ST}   (h : K27 s σ) : PF st1 (K27 s) (f_X11_spoil p0 p1 p2 σ) := by
  unfold f_X11_spoil
  exact (PF.bnd (wf_X11_isByte  (K27.i (by first | exact .inl (by decide) | exact .inr (.inl (by decide)) | exact .inr (.inr (by decide))) h)) (fun q1 hq1 => (PF.ite (fun _ => (PF.ret1 hq1)) (fun _ => (PF.ite (fun _ => (PF.bnd (PF.ret0 (K27.i (by first | exact .inl (by decide) | exact .inr (.inl (by decide)) | exact .inr (.inr (by decide))) hq1)) (fun z4 hz4 => (PF.ret1 hz4)))) (fun _ => PF.none))))))
theorem wf_X11_cut {s : ST} {p0 : Int32} {p1 : Int32} {σ : ST}   (h : K27 s σ) : PF st1 (K27 s) (f_X11_cut p0 p1 σ) := by
  unfold f_X11_cut
  exact (PF.bnd (wf_X11_isMessage  (K27.i (by first | exact .inl (by decide) | exact .inr (.inl (by decide)) | exact .inr (.inr (by decide))) h)) (fun q1 hq1 => (PF.ite (fun _ => (PF.ret1 hq1)) (fun _ => (PF.ite (fun _ => (PF.bnd (wf_X11_within  hq1) (fun q4 hq4 => (PF.ite (fun _ => (PF.ret1 hq4)) (fun _ => (PF.ret1 (K27.i (by first | exact .inl (by decide) | exact .inr (.inl (by decide)) | exact .inr (.inr (by decide))) hq4))))))) (fun _ => PF.none))))))
theorem wf_X11_misses_35 {s : ST}    : ∀ (n : Nat) (x1 : Int32) (σ : ST), K27 s σ → PF st0 (K27 s) (f_X11_misses_35  n x1 σ) := by
  intro n
  induction n with
  | zero => intro x1 σ h; rw [f_X11_misses_35]; exact PF.none
  | succ n ih =>
    intro x1 σ h
    rw [f_X11_misses_35]
    exact (PF.ite (fun _ => (PF.ret0 (K27.i (by first | exact .inl (by decide) | exact .inr (.inl (by decide)) | exact .inr (.inr (by decide))) h))) (fun _ => (PF.ite (fun _ => (PF.ite (fun _ => (ih _ _ (K27.i (by first | exact .inl (by decide) | exact .inr (.inl (by decide)) | exact .inr (.inr (by decide))) h))) (fun _ => PF.none))) (fun _ => PF.none))))
theorem wf_X11_misses {s : ST} {p0 : Int32} {σ : ST}   (h : K27 s σ) : PF st0 (K27 s) (f_X11_misses p0 σ) := by
  unfold f_X11_misses
  exact (PF.ite (fun _ => (PF.ret0 h)) (fun _ => (PF.ite (fun _ => (PF.ite (fun _ => (PF.bnd (PF.ret0 (K27.i (by first | exact .inl (by decide) | exact .inr (.inl (by decide)) | exact .inr (.inr (by decide))) (K27.i (by first | exact .inl (by decide) | exact .inr (.inl (by decide)) | exact .inr (.inr (by decide))) h))) (fun z3 hz3 => (wf_X11_misses_35  _ _ _ hz3)))) (fun _ => PF.none))) (fun _ => PF.none))))
theorem wf_X11_looksAt_69 {s : ST} {r_X11_looksAt : Int32 → Int32 → ST → Option (ST)} {r_X11_looksAtRecords : Int32 → Int32 → ST → Option (ST)} {k13 : Int32 → Int32 → Int32 → ST → Option (ST)} {x1 : Int32} {x2 : Int32} {x3 : Int32} {σ : ST} (h_r_X11_looksAt : ∀ (x1 : Int32) (x2 : Int32) (σ : ST), K27 s σ → PF st0 (K27 s) (r_X11_looksAt x1 x2 σ)) (h_r_X11_looksAtRecords : ∀ (x1 : Int32) (x2 : Int32) (σ : ST), K27 s σ → PF st0 (K27 s) (r_X11_looksAtRecords x1 x2 σ)) (h_k13 : ∀ (x1 : Int32) (x2 : Int32) (x3 : Int32) (σ : ST), K27 s σ → PF st0 (K27 s) (k13 x1 x2 x3 σ))  (h : K27 s σ) : PF st0 (K27 s) (f_X11_looksAt_69 r_X11_looksAt r_X11_looksAtRecords k13 x1 x2 x3 σ) := by
  unfold f_X11_looksAt_69
  exact (h_k13 _ _ _ _ (K27.i (by first | exact .inl (by decide) | exact .inr (.inl (by decide)) | exact .inr (.inr (by decide))) h))
theorem wf_X11_looksAt_13 {s : ST} {r_X11_looksAt : Int32 → Int32 → ST → Option (ST)} {r_X11_looksAtRecords : Int32 → Int32 → ST → Option (ST)} (h_r_X11_looksAt : ∀ (x1 : Int32) (x2 : Int32) (σ : ST), K27 s σ → PF st0 (K27 s) (r_X11_looksAt x1 x2 σ)) (h_r_X11_looksAtRecords : ∀ (x1 : Int32) (x2 : Int32) (σ : ST), K27 s σ → PF st0 (K27 s) (r_X11_looksAtRecords x1 x2 σ))  : ∀ (n : Nat) (x1 : Int32) (x2 : Int32) (x3 : Int32) (σ : ST), K27 s σ → PF st0 (K27 s) (f_X11_looksAt_13 r_X11_looksAt r_X11_looksAtRecords n x1 x2 x3 σ) := by
  intro n
  induction n with
  | zero => intro x1 x2 x3 σ h; rw [f_X11_looksAt_13]; exact PF.none
  | succ n ih =>
    intro x1 x2 x3 σ h
    rw [f_X11_looksAt_13]
    exact (PF.ite (fun _ => (PF.ite (fun _ => (PF.ret0 h)) (fun _ => (PF.bnd (wf_X11_enters  h) (fun q2 hq2 => (PF.ite (fun _ => (PF.bnd (wf_T_X11_match hq2) (fun q5 hq5 => (PF.ite (fun _ => (PF.bnd (wf_X11_misses  hq5) (fun q7 hq7 => (wf_X11_looksAt_69 h_r_X11_looksAt h_r_X11_looksAtRecords ih hq7)))) (fun _ => (PF.bnd (h_r_X11_looksAt _ _ _ hq5) (fun q9 hq9 => (wf_X11_looksAt_69 h_r_X11_looksAt h_r_X11_looksAtRecords ih hq9)))))))) (fun _ => PF.none))))))) (fun _ => PF.none))
theorem wf_X11_looksAt_253 {s : ST} {r_X11_looksAt : Int32 → Int32 → ST → Option (ST)} {r_X11_looksAtRecords : Int32 → Int32 → ST → Option (ST)} {x1 : Int32} {x2 : Int32} {σ : ST} (h_r_X11_looksAt : ∀ (x1 : Int32) (x2 : Int32) (σ : ST), K27 s σ → PF st0 (K27 s) (r_X11_looksAt x1 x2 σ)) (h_r_X11_looksAtRecords : ∀ (x1 : Int32) (x2 : Int32) (σ : ST), K27 s σ → PF st0 (K27 s) (r_X11_looksAtRecords x1 x2 σ))  (h : K27 s σ) : PF st0 (K27 s) (f_X11_looksAt_253 r_X11_looksAt r_X11_looksAtRecords x1 x2 σ) := by
  unfold f_X11_looksAt_253
  exact (PF.bnd (wf_T_X11_match h) (fun q1 hq1 => (PF.ite (fun _ => (PF.bnd (wf_X11_misses  hq1) (fun q3 hq3 => (PF.ret0 hq3)))) (fun _ => (PF.ret0 hq1)))))
theorem wf_X11_looksAt_196 {s : ST} {r_X11_looksAt : Int32 → Int32 → ST → Option (ST)} {r_X11_looksAtRecords : Int32 → Int32 → ST → Option (ST)} {x1 : Int32} {x2 : Int32} {σ : ST} (h_r_X11_looksAt : ∀ (x1 : Int32) (x2 : Int32) (σ : ST), K27 s σ → PF st0 (K27 s) (r_X11_looksAt x1 x2 σ)) (h_r_X11_looksAtRecords : ∀ (x1 : Int32) (x2 : Int32) (σ : ST), K27 s σ → PF st0 (K27 s) (r_X11_looksAtRecords x1 x2 σ))  (h : K27 s σ) : PF st0 (K27 s) (f_X11_looksAt_196 r_X11_looksAt r_X11_looksAtRecords x1 x2 σ) := by
  unfold f_X11_looksAt_196
  exact (PF.ite (fun _ => (PF.ite (fun _ => (PF.ite (fun _ => (PF.ite (fun _ => (PF.bnd (wf_X11_enters  h) (fun q3 hq3 => (PF.bnd (h_r_X11_looksAt _ _ _ hq3) (fun q5 hq5 => (PF.ret0 (K27.i (by first | exact .inl (by decide) | exact .inr (.inl (by decide)) | exact .inr (.inr (by decide))) hq5))))))) (fun _ => (wf_X11_looksAt_253 h_r_X11_looksAt h_r_X11_looksAtRecords h)))) (fun _ => PF.none))) (fun _ => (wf_X11_looksAt_253 h_r_X11_looksAt h_r_X11_looksAtRecords h)))) (fun _ => PF.none))
theorem wf_X11_looksAt {s : ST} {r_X11_looksAt : Int32 → Int32 → ST → Option (ST)} {r_X11_looksAtRecords : Int32 → Int32 → ST → Option (ST)} {p0 : Int32} {p1 : Int32} {σ : ST} (h_r_X11_looksAt : ∀ (x1 : Int32) (x2 : Int32) (σ : ST), K27 s σ → PF st0 (K27 s) (r_X11_looksAt x1 x2 σ)) (h_r_X11_looksAtRecords : ∀ (x1 : Int32) (x2 : Int32) (σ : ST), K27 s σ → PF st0 (K27 s) (r_X11_looksAtRecords x1 x2 σ))  (h : K27 s σ) : PF st0 (K27 s) (f_X11_looksAt r_X11_looksAt r_X11_looksAtRecords p0 p1 σ) := by
  unfold f_X11_looksAt
  exact (PF.ite (fun _ => (PF.ite (fun _ => (wf_X11_looksAt_13 h_r_X11_looksAt h_r_X11_looksAtRecords _ _ _ _ _ h)) (fun _ => (PF.ite (fun _ => (PF.ite (fun _ => (PF.bnd (wf_T_X11_chosen h) (fun q7 hq7 => (PF.ite (fun _ => (PF.ite (fun _ => (PF.bnd (h_r_X11_looksAt _ _ _ hq7) (fun q10 hq10 => (PF.ret0 hq10)))) (fun _ => PF.none))) (fun _ => (PF.bnd (wf_X11_misses  hq7) (fun q12 hq12 => (PF.ret0 hq12)))))))) (fun _ => (PF.ite (fun _ => (PF.ite (fun _ => (PF.bnd (wf_X11_namesMay  h) (fun q3 hq3 => (PF.ite (fun _ => (wf_X11_looksAt_196 h_r_X11_looksAt h_r_X11_looksAtRecords hq3)) (fun _ => (PF.bnd (h_r_X11_looksAtRecords _ _ _ hq3) (fun q5 hq5 => (PF.ret0 hq5)))))))) (fun _ => (wf_X11_looksAt_196 h_r_X11_looksAt h_r_X11_looksAtRecords h)))) (fun _ => (wf_X11_looksAt_196 h_r_X11_looksAt h_r_X11_looksAtRecords h)))))) (fun _ => PF.none))))) (fun _ => PF.none))
theorem wf_X11_looksAtRecords_116 {s : ST} {r_X11_looksAt : Int32 → Int32 → ST → Option (ST)} {r_X11_looksAtRecords : Int32 → Int32 → ST → Option (ST)} {k40 : Int32 → Int32 → Int32 → ST → Option (ST)} {x1 : Int32} {x3 : Int32} {x4 : Int32} {σ : ST} (h_r_X11_looksAt : ∀ (x1 : Int32) (x2 : Int32) (σ : ST), K27 s σ → PF st0 (K27 s) (r_X11_looksAt x1 x2 σ)) (h_r_X11_looksAtRecords : ∀ (x1 : Int32) (x2 : Int32) (σ : ST), K27 s σ → PF st0 (K27 s) (r_X11_looksAtRecords x1 x2 σ)) (h_k40 : ∀ (x1 : Int32) (x2 : Int32) (x3 : Int32) (σ : ST), K27 s σ → PF st0 (K27 s) (k40 x1 x2 x3 σ))  (h : K27 s σ) : PF st0 (K27 s) (f_X11_looksAtRecords_116 r_X11_looksAt r_X11_looksAtRecords k40 x1 x3 x4 σ) := by
  unfold f_X11_looksAtRecords_116
  exact (h_k40 _ _ _ _ (K27.i (by first | exact .inl (by decide) | exact .inr (.inl (by decide)) | exact .inr (.inr (by decide))) h))
theorem wf_X11_looksAtRecords_40 {s : ST} {r_X11_looksAt : Int32 → Int32 → ST → Option (ST)} {r_X11_looksAtRecords : Int32 → Int32 → ST → Option (ST)} (h_r_X11_looksAt : ∀ (x1 : Int32) (x2 : Int32) (σ : ST), K27 s σ → PF st0 (K27 s) (r_X11_looksAt x1 x2 σ)) (h_r_X11_looksAtRecords : ∀ (x1 : Int32) (x2 : Int32) (σ : ST), K27 s σ → PF st0 (K27 s) (r_X11_looksAtRecords x1 x2 σ))  : ∀ (n : Nat) (x1 : Int32) (x2 : Int32) (x3 : Int32) (σ : ST), K27 s σ → PF st0 (K27 s) (f_X11_looksAtRecords_40 r_X11_looksAt r_X11_looksAtRecords n x1 x2 x3 σ) := by
  intro n
  induction n with
  | zero => intro x1 x2 x3 σ h; rw [f_X11_looksAtRecords_40]; exact PF.none
  | succ n ih =>
    intro x1 x2 x3 σ h
    rw [f_X11_looksAtRecords_40]
    exact (PF.ite (fun _ => (PF.ite (fun _ => (PF.ret0 h)) (fun _ => (PF.bnd (wf_X11_fieldFor  h) (fun q2 hq2 => (PF.bnd (wf_X11_enters  hq2) (fun q4 hq4 => (PF.ite (fun _ => (PF.ite (fun _ => (PF.ite (fun _ => (PF.bnd (wf_X11_misses  hq4) (fun q7 hq7 => (wf_X11_looksAtRecords_116 h_r_X11_looksAt h_r_X11_looksAtRecords ih hq7)))) (fun _ => (wf_X11_looksAtRecords_116 h_r_X11_looksAt h_r_X11_looksAtRecords ih hq4)))) (fun _ => PF.none))) (fun _ => (PF.ite (fun _ => (PF.ite (fun _ => (PF.bnd (h_r_X11_looksAt _ _ _ hq4) (fun q11 hq11 => (wf_X11_looksAtRecords_116 h_r_X11_looksAt h_r_X11_looksAtRecords ih hq11)))) (fun _ => PF.none))) (fun _ => PF.none))))))))))) (fun _ => PF.none))
theorem wf_X11_looksAtRecords {s : ST} {r_X11_looksAt : Int32 → Int32 → ST → Option (ST)} {r_X11_looksAtRecords : Int32 → Int32 → ST → Option (ST)} {p0 : Int32} {p1 : Int32} {σ : ST} (h_r_X11_looksAt : ∀ (x1 : Int32) (x2 : Int32) (σ : ST), K27 s σ → PF st0 (K27 s) (r_X11_looksAt x1 x2 σ)) (h_r_X11_looksAtRecords : ∀ (x1 : Int32) (x2 : Int32) (σ : ST), K27 s σ → PF st0 (K27 s) (r_X11_looksAtRecords x1 x2 σ))  (h : K27 s σ) : PF st0 (K27 s) (f_X11_looksAtRecords r_X11_looksAt r_X11_looksAtRecords p0 p1 σ) := by
  unfold f_X11_looksAtRecords
  exact (PF.ite (fun _ => (PF.ite (fun _ => (PF.val (wf_X11_looksAtRecords_40 h_r_X11_looksAt h_r_X11_looksAtRecords _ _ _ _ _ (K27.i (by first | exact .inl (by decide) | exact .inr (.inl (by decide)) | exact .inr (.inr (by decide))) h)))) (fun _ => (PF.ret0 h)))) (fun _ => PF.none))
theorem wfR_X11_looksAt {s : ST} : ∀ n : Nat, (∀ (p0 : Int32) (p1 : Int32) (σ : ST), K27 s σ → PF st0 (K27 s) ((R_X11_looksAt n).1 p0 p1 σ)) ∧ (∀ (p0 : Int32) (p1 : Int32) (σ : ST), K27 s σ → PF st0 (K27 s) ((R_X11_looksAt n).2 p0 p1 σ)) := by
  intro n
  induction n with
  | zero => exact ⟨fun _ _ _ _ => PF.none, fun _ _ _ _ => PF.none⟩
  | succ n ih => exact ⟨fun _ _ _ h => wf_X11_looksAt (ih.1) (ih.2)  h, fun _ _ _ h => wf_X11_looksAtRecords (ih.1) (ih.2)  h⟩
theorem wf_T_X11_looksAtRecords {s : ST} {p0 : Int32} {p1 : Int32} {σ : ST} (h : K27 s σ) : PF st0 (K27 s) (f_T_X11_looksAtRecords p0 p1 σ) := (wfR_X11_looksAt FRB).2 _ _ _  h
theorem wf_X11_laysMisses_18 {s : ST}    : ∀ (n : Nat) (x1 : Int32) (σ : ST), K27 s σ → PF st0 (K27 s) (f_X11_laysMisses_18  n x1 σ) := by
  intro n
  induction n with
  | zero => intro x1 σ h; rw [f_X11_laysMisses_18]; exact PF.none
  | succ n ih =>
    intro x1 σ h
    rw [f_X11_laysMisses_18]
    exact (PF.ite (fun _ => (PF.bnd (wf_T_X11_looksAtRecords h) (fun q1 hq1 => (PF.ret0 hq1)))) (fun _ => (PF.ite (fun _ => (ih _ _ (K27.i (by first | exact .inl (by decide) | exact .inr (.inl (by decide)) | exact .inr (.inr (by decide))) h))) (fun _ => PF.none))))
theorem wf_X11_laysMisses {s : ST} {p0 : Int32} {p1 : Int32} {σ : ST}   (h : K27 s σ) : PF st0 (K27 s) (f_X11_laysMisses p0 p1 σ) := by
  unfold f_X11_laysMisses
  exact (PF.bnd (wf_X11_laysPairs  h) (fun q1 hq1 => (wf_X11_laysMisses_18  _ _ _ (K27.i (by first | exact .inl (by decide) | exact .inr (.inl (by decide)) | exact .inr (.inr (by decide))) (K27.i (by first | exact .inl (by decide) | exact .inr (.inl (by decide)) | exact .inr (.inr (by decide))) hq1)))))
theorem wf_X11_verdict {s : ST} {p0 : Int32} {p1 : Int32} {σ : ST}   (h : K27 s σ) : PF st1 (K27 s) (f_X11_verdict p0 p1 σ) := by
  unfold f_X11_verdict
  exact (PF.bnd (wf_X11_laysMisses  h) (fun q1 hq1 => (PF.ite (fun _ => (PF.ret1 hq1)) (fun _ => (PF.ite (fun _ => (PF.ret1 hq1)) (fun _ => (PF.ret1 hq1)))))))
theorem wf_X11_matches {s : ST} {p0 : Int32} {p1 : Int32} {σ : ST}   (h : K27 s σ) : PF st1 (K27 s) (f_X11_matches p0 p1 σ) := by
  unfold f_X11_matches
  exact (PF.bnd (wf_X11_isPlanAt  (K27.i (by first | exact .inl (by decide) | exact .inr (.inl (by decide)) | exact .inr (.inr (by decide))) h)) (fun q1 hq1 => (PF.ite (fun _ => (PF.ret1 hq1)) (fun _ => (PF.bnd (wf_X11_isPlanAt  hq1) (fun q3 hq3 => (PF.ite (fun _ => (PF.ret1 hq3)) (fun _ => (PF.bnd (wf_X11_verdict  hq3) (fun q5 hq5 => (PF.ret1 hq5)))))))))))
theorem wf_X11_miss {s : ST} {p0 : Int32} {p1 : Int32} {p2 : Int32} {p3 : Int32} {σ : ST}   (h : K27 s σ) : PF st1 (K27 s) (f_X11_miss p0 p1 p2 p3 σ) := by
  unfold f_X11_miss
  exact (PF.bnd (wf_X11_isPlanAt  (K27.i (by first | exact .inl (by decide) | exact .inr (.inl (by decide)) | exact .inr (.inr (by decide))) h)) (fun q1 hq1 => (PF.ite (fun _ => (PF.ret1 hq1)) (fun _ => (PF.bnd (wf_X11_isPlanAt  hq1) (fun q3 hq3 => (PF.ite (fun _ => (PF.ret1 hq3)) (fun _ => (PF.bnd (wf_X11_within  hq3) (fun q5 hq5 => (PF.ite (fun _ => (PF.ret1 hq5)) (fun _ => (PF.bnd (wf_X11_laysMisses  hq5) (fun q7 hq7 => (PF.ite (fun _ => (PF.ret1 hq7)) (fun _ => (PF.bnd (wf_X11_within  hq7) (fun q9 hq9 => (PF.ite (fun _ => (PF.ret1 hq9)) (fun _ => (PF.ite (fun _ => (PF.ite (fun _ => (PF.ret1 hq9)) (fun _ => PF.none))) (fun _ => (PF.ite (fun _ => (PF.ret1 hq9)) (fun _ => PF.none))))))))))))))))))))))))
theorem wf_X11_missStep {s : ST} {p0 : Int32} {p1 : Int32} {p2 : Int32} {p3 : Int32} {σ : ST}   (h : K27 s σ) : PF st1 (K27 s) (f_X11_missStep p0 p1 p2 p3 σ) := by
  unfold f_X11_missStep
  exact (PF.bnd (wf_X11_isPlanAt  (K27.i (by first | exact .inl (by decide) | exact .inr (.inl (by decide)) | exact .inr (.inr (by decide))) h)) (fun q1 hq1 => (PF.ite (fun _ => (PF.ret1 hq1)) (fun _ => (PF.bnd (wf_X11_isPlanAt  hq1) (fun q3 hq3 => (PF.ite (fun _ => (PF.ret1 hq3)) (fun _ => (PF.bnd (wf_X11_laysMisses  hq3) (fun q5 hq5 => (PF.bnd (wf_X11_within  hq5) (fun q7 hq7 => (PF.ite (fun _ => (PF.ret1 hq7)) (fun _ => (PF.ite (fun _ => (PF.bnd (wf_X11_within  hq7) (fun q10 hq10 => (PF.ite (fun _ => (PF.ret1 hq10)) (fun _ => (PF.ite (fun _ => (PF.ret1 hq10)) (fun _ => PF.none))))))) (fun _ => PF.none))))))))))))))))
theorem wf_X11_readers_59 {s : ST} {k30 : Int32 → Int32 → Int32 → Int32 → ST → Option (Int32 × ST)} {x1 : Int32} {x2 : Int32} {x4 : Int32} {y0 : Int32} {y1 : Int32} {σ : ST} (h_k30 : ∀ (x1 : Int32) (x2 : Int32) (x3 : Int32) (x4 : Int32) (σ : ST), K27 s σ → PF st1 (K27 s) (k30 x1 x2 x3 x4 σ))  (h : K27 s σ) : PF st1 (K27 s) (f_X11_readers_59 k30 x1 x2 x4 y0 y1 σ) := by
  unfold f_X11_readers_59
  exact (h_k30 _ _ _ _ _ h)
theorem wf_X11_readers_30 {s : ST}    : ∀ (n : Nat) (x1 : Int32) (x2 : Int32) (x3 : Int32) (x4 : Int32) (σ : ST), K27 s σ → PF st1 (K27 s) (f_X11_readers_30  n x1 x2 x3 x4 σ) := by
  intro n
  induction n with
  | zero => intro x1 x2 x3 x4 σ h; rw [f_X11_readers_30]; exact PF.none
  | succ n ih =>
    intro x1 x2 x3 x4 σ h
    rw [f_X11_readers_30]
    exact (PF.ite (fun _ => (PF.ret1 h)) (fun _ => (PF.bnd (wf_X11_verdict  h) (fun q1 hq1 => (PF.ite (fun _ => (wf_X11_readers_59 ih hq1)) (fun _ => (wf_X11_readers_59 ih hq1)))))))
theorem wf_X11_readers {s : ST} {p0 : Int32} {p1 : Int32} {σ : ST}   (h : K27 s σ) : PF st1 (K27 s) (f_X11_readers p0 p1 σ) := by
  unfold f_X11_readers
  exact (PF.bnd (wf_X11_isPlanAt  (K27.i (by first | exact .inl (by decide) | exact .inr (.inl (by decide)) | exact .inr (.inr (by decide))) h)) (fun q1 hq1 => (PF.ite (fun _ => (PF.ret1 hq1)) (fun _ => (PF.bnd (wf_X11_within  hq1) (fun q3 hq3 => (PF.ite (fun _ => (PF.ret1 hq3)) (fun _ => (wf_X11_readers_30  _ _ _ _ _ _ hq3)))))))))
theorem wf_X11_failure {s : ST} {p0 : Int32} {σ : ST}   (h : K27 s σ) : PF st1 (K27 s) (f_X11_failure p0 σ) := by
  unfold f_X11_failure
  exact (PF.ite (fun _ => (PF.ret1 (K27.i (by first | exact .inl (by decide) | exact .inr (.inl (by decide)) | exact .inr (.inr (by decide))) h))) (fun _ => (PF.ite (fun _ => (PF.ret1 (K27.i (by first | exact .inl (by decide) | exact .inr (.inl (by decide)) | exact .inr (.inr (by decide))) h))) (fun _ => (PF.ite (fun _ => (PF.ret1 (K27.i (by first | exact .inl (by decide) | exact .inr (.inl (by decide)) | exact .inr (.inr (by decide))) h))) (fun _ => (PF.ite (fun _ => (PF.ret1 (K27.i (by first | exact .inl (by decide) | exact .inr (.inl (by decide)) | exact .inr (.inr (by decide))) h))) (fun _ => (PF.ret1 (K27.i (by first | exact .inl (by decide) | exact .inr (.inl (by decide)) | exact .inr (.inr (by decide))) h))))))))))
theorem wf_X11_failureStep {s : ST} {p0 : Int32} {σ : ST}   (h : K27 s σ) : PF st1 (K27 s) (f_X11_failureStep p0 σ) := by
  unfold f_X11_failureStep
  exact (PF.ite (fun _ => (PF.ret1 (K27.i (by first | exact .inl (by decide) | exact .inr (.inl (by decide)) | exact .inr (.inr (by decide))) h))) (fun _ => (PF.bnd (wf_X11_within  (K27.i (by first | exact .inl (by decide) | exact .inr (.inl (by decide)) | exact .inr (.inr (by decide))) h)) (fun q1 hq1 => (PF.ite (fun _ => (PF.ret1 hq1)) (fun _ => (PF.ite (fun _ => (PF.ret1 hq1)) (fun _ => PF.none))))))))
theorem wf_X11_node_34 {s : ST} {x1 : Int32} {x2 : Int32} {y0 : Int32} {σ : ST}   (h : K27 s σ) : PF st1 (K27 s) (f_X11_node_34 x1 x2 y0 σ) := by
  unfold f_X11_node_34
  exact (PF.ite (fun _ => (PF.ite (fun _ => (PF.ite (fun _ => (PF.ret1 (K27.i (by first | exact .inl (by decide) | exact .inr (.inl (by decide)) | exact .inr (.inr (by decide))) h))) (fun _ => PF.none))) (fun _ => (PF.ite (fun _ => (PF.ite (fun _ => (PF.ret1 (K27.i (by first | exact .inl (by decide) | exact .inr (.inl (by decide)) | exact .inr (.inr (by decide))) h))) (fun _ => PF.none))) (fun _ => (PF.ite (fun _ => (PF.ite (fun _ => (PF.ret1 (K27.i (by first | exact .inl (by decide) | exact .inr (.inl (by decide)) | exact .inr (.inr (by decide))) h))) (fun _ => PF.none))) (fun _ => (PF.ite (fun _ => (PF.ite (fun _ => (PF.ret1 (K27.i (by first | exact .inl (by decide) | exact .inr (.inl (by decide)) | exact .inr (.inr (by decide))) h))) (fun _ => PF.none))) (fun _ => (PF.ite (fun _ => (PF.ite (fun _ => (PF.ret1 (K27.i (by first | exact .inl (by decide) | exact .inr (.inl (by decide)) | exact .inr (.inr (by decide))) h))) (fun _ => (PF.ret1 (K27.i (by first | exact .inl (by decide) | exact .inr (.inl (by decide)) | exact .inr (.inr (by decide))) h))))) (fun _ => PF.none))))))))))) (fun _ => (PF.ret1 (K27.i (by first | exact .inl (by decide) | exact .inr (.inl (by decide)) | exact .inr (.inr (by decide))) h))))
theorem wf_X11_node_33 {s : ST} {x1 : Int32} {x2 : Int32} {σ : ST}   (h : K27 s σ) : PF st1 (K27 s) (f_X11_node_33 x1 x2 σ) := by
  unfold f_X11_node_33
  exact (wf_X11_node_34  h)
theorem wf_X11_node {s : ST} {p0 : Int32} {p1 : Int32} {σ : ST}   (h : K27 s σ) : PF st1 (K27 s) (f_X11_node p0 p1 σ) := by
  unfold f_X11_node
  exact (PF.bnd (wf_X11_within  h) (fun q1 hq1 => (PF.ite (fun _ => (wf_X11_node_33  hq1)) (fun _ => (PF.bnd (wf_X11_within  hq1) (fun q3 hq3 => (PF.ite (fun _ => (wf_X11_node_33  hq3)) (fun _ => (wf_X11_node_34  hq3)))))))))
theorem wf_X11_value__22 {s : ST} {x1 : Int32} {y0 : Int32} {σ : ST}   (h : K27 s σ) : PF st1 (K27 s) (f_X11_value__22 x1 y0 σ) := by
  unfold f_X11_value__22
  exact (PF.ite (fun _ => (PF.ite (fun _ => (PF.ret1 (K27.i (by first | exact .inl (by decide) | exact .inr (.inl (by decide)) | exact .inr (.inr (by decide))) h))) (fun _ => PF.none))) (fun _ => (PF.ret1 (K27.i (by first | exact .inl (by decide) | exact .inr (.inl (by decide)) | exact .inr (.inr (by decide))) h))))
theorem wf_X11_value_ {s : ST} {p0 : Int32} {σ : ST}   (h : K27 s σ) : PF st1 (K27 s) (f_X11_value_ p0 σ) := by
  unfold f_X11_value_
  exact (PF.bnd (wf_X11_within  h) (fun q1 hq1 => (PF.ite (fun _ => (wf_X11_value__22  hq1)) (fun _ => (wf_X11_value__22  hq1)))))
theorem wf_X11_letter_75 {s : ST}    : ∀ (n : Nat) (x1 : Int32) (x2 : Int64) (x3 : Int32) (σ : ST), K27 s σ → PF st1 (K27 s) (f_X11_letter_75  n x1 x2 x3 σ) := by
  intro n
  induction n with
  | zero => intro x1 x2 x3 σ h; rw [f_X11_letter_75]; exact PF.none
  | succ n ih =>
    intro x1 x2 x3 σ h
    rw [f_X11_letter_75]
    exact (PF.ite (fun _ => (PF.ret1 h)) (fun _ => (ih _ _ _ _ h)))
theorem wf_X11_letter_36 {s : ST} {x1 : Int32} {x2 : Int32} {y0 : Int32} {σ : ST}   (h : K27 s σ) : PF st1 (K27 s) (f_X11_letter_36 x1 x2 y0 σ) := by
  unfold f_X11_letter_36
  exact (PF.ite (fun _ => (PF.ret1 (K27.i (by first | exact .inl (by decide) | exact .inr (.inl (by decide)) | exact .inr (.inr (by decide))) h))) (fun _ => (PF.ite (fun _ => (PF.ite (fun _ => (wf_X11_letter_75  _ _ _ _ _ (K27.i (by first | exact .inl (by decide) | exact .inr (.inl (by decide)) | exact .inr (.inr (by decide))) h))) (fun _ => (PF.ret1 (K27.i (by first | exact .inl (by decide) | exact .inr (.inl (by decide)) | exact .inr (.inr (by decide))) h))))) (fun _ => PF.none))))
theorem wf_X11_letter_35 {s : ST} {x1 : Int32} {x2 : Int32} {σ : ST}   (h : K27 s σ) : PF st1 (K27 s) (f_X11_letter_35 x1 x2 σ) := by
  unfold f_X11_letter_35
  exact (wf_X11_letter_36  h)
theorem wf_X11_letter {s : ST} {p0 : Int32} {p1 : Int32} {σ : ST}   (h : K27 s σ) : PF st1 (K27 s) (f_X11_letter p0 p1 σ) := by
  unfold f_X11_letter
  exact (PF.bnd (wf_X11_within  h) (fun q1 hq1 => (PF.ite (fun _ => (wf_X11_letter_35  hq1)) (fun _ => (PF.ite (fun _ => (PF.ite (fun _ => (PF.ite (fun _ => (wf_X11_letter_35  hq1)) (fun _ => (wf_X11_letter_36  hq1)))) (fun _ => (wf_X11_letter_35  hq1)))) (fun _ => PF.none))))))
theorem wf_X11_orders_136 {s : ST} {r_X11_orders : Int32 → ST → Option (ST)} (h_r_X11_orders : ∀ (x1 : Int32) (σ : ST), K27 s σ → PF st0 (K27 s) (r_X11_orders x1 σ))  : ∀ (n : Nat) (x1 : Int32) (σ : ST), K27 s σ → PF st0 (K27 s) (f_X11_orders_136 r_X11_orders n x1 σ) := by
  intro n
  induction n with
  | zero => intro x1 σ h; rw [f_X11_orders_136]; exact PF.none
  | succ n ih =>
    intro x1 σ h
    rw [f_X11_orders_136]
    exact (PF.ite (fun _ => (PF.ret0 h)) (fun _ => (PF.bnd (h_r_X11_orders _ _ h) (fun q1 hq1 => (PF.ite (fun _ => (ih _ _ hq1)) (fun _ => PF.none))))))
theorem wf_X11_orders_70 {s : ST} {r_X11_orders : Int32 → ST → Option (ST)} {x1 : Int32} {x2 : Int32} {y0 : Int32} {y1 : Int32} {σ : ST} (h_r_X11_orders : ∀ (x1 : Int32) (σ : ST), K27 s σ → PF st0 (K27 s) (r_X11_orders x1 σ))  (h : K27 s σ) : PF st0 (K27 s) (f_X11_orders_70 r_X11_orders x1 x2 y0 y1 σ) := by
  unfold f_X11_orders_70
  exact (PF.ite (fun _ => (PF.ite (fun _ => (PF.ite (fun _ => (PF.bnd (PF.ret0 (K27.i (by first | exact .inl (by decide) | exact .inr (.inl (by decide)) | exact .inr (.inr (by decide))) (K27.i (by first | exact .inl (by decide) | exact .inr (.inl (by decide)) | exact .inr (.inr (by decide))) h))) (fun z4 hz4 => (PF.ite (fun _ => (PF.ite (fun _ => (PF.bnd (PF.ret0 (K27.l (K27.i (by first | exact .inl (by decide) | exact .inr (.inl (by decide)) | exact .inr (.inr (by decide))) hz4))) (fun z7 hz7 => (PF.ite (fun _ => (PF.val (wf_X11_orders_136 h_r_X11_orders _ _ _ (K27.l hz7)))) (fun _ => PF.none))))) (fun _ => PF.none))) (fun _ => PF.none))))) (fun _ => PF.none))) (fun _ => PF.none))) (fun _ => PF.none))
theorem wf_X11_orders {s : ST} {r_X11_orders : Int32 → ST → Option (ST)} {p0 : Int32} {σ : ST} (h_r_X11_orders : ∀ (x1 : Int32) (σ : ST), K27 s σ → PF st0 (K27 s) (r_X11_orders x1 σ))  (h : K27 s σ) : PF st0 (K27 s) (f_X11_orders r_X11_orders p0 σ) := by
  unfold f_X11_orders
  exact (PF.ite (fun _ => (PF.bnd (PF.ret0 (K27.i (by first | exact .inl (by decide) | exact .inr (.inl (by decide)) | exact .inr (.inr (by decide))) (K27.i (by first | exact .inl (by decide) | exact .inr (.inl (by decide)) | exact .inr (.inr (by decide))) h))) (fun z2 hz2 => (PF.ite (fun _ => (PF.ite (fun _ => (PF.bnd (PF.ret0 (K27.i (by first | exact .inl (by decide) | exact .inr (.inl (by decide)) | exact .inr (.inr (by decide))) hz2)) (fun z5 hz5 => (PF.ite (fun _ => (PF.ite (fun _ => (wf_X11_orders_70 h_r_X11_orders hz5)) (fun _ => PF.none))) (fun _ => (wf_X11_orders_70 h_r_X11_orders hz5)))))) (fun _ => PF.none))) (fun _ => PF.none))))) (fun _ => PF.none))
theorem wfR_X11_orders {s : ST} : ∀ n : Nat, (∀ (p0 : Int32) (σ : ST), K27 s σ → PF st0 (K27 s) ((R_X11_orders n) p0 σ)) := by
  intro n
  induction n with
  | zero => exact fun _ _ _ => PF.none
  | succ n ih => exact fun _ _ h => wf_X11_orders ih  h
theorem wf_T_X11_orders {s : ST} {p0 : Int32} {σ : ST} (h : K27 s σ) : PF st0 (K27 s) (f_T_X11_orders p0 σ) := (wfR_X11_orders FRB) _ _  h
theorem wf_X11_alike_238 {s : ST} {x6 : Int32} {σ : ST}   (h : K27 s σ) : PF st1 (K27 s) (f_X11_alike_238 x6 σ) := by
  unfold f_X11_alike_238
  exact (PF.ite (fun _ => (PF.ret1 h)) (fun _ => (PF.ret1 h)))
theorem wf_X11_alike_230 {s : ST} {k172 : Int32 → Int32 → Int32 → ST → Option (Int32 × ST)} {x5 : Int32} {x7 : Int32} {y0 : Int32} {σ : ST} (h_k172 : ∀ (x1 : Int32) (x2 : Int32) (x3 : Int32) (σ : ST), K27 s σ → PF st1 (K27 s) (k172 x1 x2 x3 σ))  (h : K27 s σ) : PF st1 (K27 s) (f_X11_alike_230 k172 x5 x7 y0 σ) := by
  unfold f_X11_alike_230
  exact (h_k172 _ _ _ _ h)
theorem wf_X11_alike_229 {s : ST} {k172 : Int32 → Int32 → Int32 → ST → Option (Int32 × ST)} {x5 : Int32} {x7 : Int32} {σ : ST} (h_k172 : ∀ (x1 : Int32) (x2 : Int32) (x3 : Int32) (σ : ST), K27 s σ → PF st1 (K27 s) (k172 x1 x2 x3 σ))  (h : K27 s σ) : PF st1 (K27 s) (f_X11_alike_229 k172 x5 x7 σ) := by
  unfold f_X11_alike_229
  exact (wf_X11_alike_230 h_k172 h)
theorem wf_X11_alike_172 {s : ST}    : ∀ (n : Nat) (x1 : Int32) (x2 : Int32) (x3 : Int32) (σ : ST), K27 s σ → PF st1 (K27 s) (f_X11_alike_172  n x1 x2 x3 σ) := by
  intro n
  induction n with
  | zero => intro x1 x2 x3 σ h; rw [f_X11_alike_172]; exact PF.none
  | succ n ih =>
    intro x1 x2 x3 σ h
    rw [f_X11_alike_172]
    exact (PF.ite (fun _ => (wf_X11_alike_238  h)) (fun _ => (PF.ite (fun _ => (wf_X11_alike_238  h)) (fun _ => (PF.ite (fun _ => (PF.ite (fun _ => (PF.ite (fun _ => (PF.ite (fun _ => (wf_X11_alike_230 ih h)) (fun _ => (wf_X11_alike_229 ih h)))) (fun _ => PF.none))) (fun _ => (wf_X11_alike_229 ih h)))) (fun _ => PF.none))))))
theorem wf_X11_alike_167 {s : ST} {x5 : Int32} {y0 : Int32} {σ : ST}   (h : K27 s σ) : PF st1 (K27 s) (f_X11_alike_167 x5 y0 σ) := by
  unfold f_X11_alike_167
  exact (wf_X11_alike_172  _ _ _ _ _ h)
theorem wf_X11_alike_98 {s : ST}    : ∀ (n : Nat) (x1 : Int32) (x2 : Int32) (x3 : Int32) (x4 : Int32) (σ : ST), K27 s σ → PF st1 (K27 s) (f_X11_alike_98  n x1 x2 x3 x4 σ) := by
  intro n
  induction n with
  | zero => intro x1 x2 x3 x4 σ h; rw [f_X11_alike_98]; exact PF.none
  | succ n ih =>
    intro x1 x2 x3 x4 σ h
    rw [f_X11_alike_98]
    exact (PF.ite (fun _ => (PF.bnd (wf_X11_readsAll  h) (fun q1 hq1 => (PF.ite (fun _ => (PF.bnd (wf_T_X11_orders (K27.i (by first | exact .inl (by decide) | exact .inr (.inl (by decide)) | exact .inr (.inr (by decide))) hq1)) (fun q3 hq3 => (PF.ite (fun _ => (wf_X11_alike_167  hq3)) (fun _ => (wf_X11_alike_167  hq3)))))) (fun _ => (PF.ret1 hq1)))))) (fun _ => (PF.ite (fun _ => (ih _ _ _ _ _ (K27.l h))) (fun _ => PF.none))))
theorem wf_X11_alike_66 {s : ST}    : ∀ (n : Nat) (x1 : Int32) (x2 : Int32) (x3 : Int32) (x4 : Int32) (σ : ST), K27 s σ → PF st1 (K27 s) (f_X11_alike_66  n x1 x2 x3 x4 σ) := by
  intro n
  induction n with
  | zero => intro x1 x2 x3 x4 σ h; rw [f_X11_alike_66]; exact PF.none
  | succ n ih =>
    intro x1 x2 x3 x4 σ h
    rw [f_X11_alike_66]
    exact (PF.ite (fun _ => (wf_X11_alike_98  _ _ _ _ _ _ h)) (fun _ => (PF.ite (fun _ => (ih _ _ _ _ _ (K27.i (by first | exact .inl (by decide) | exact .inr (.inl (by decide)) | exact .inr (.inr (by decide))) h))) (fun _ => PF.none))))
theorem wf_X11_alike {s : ST} {p0 : Int32} {p1 : Int32} {p2 : Int32} {σ : ST}   (h : K27 s σ) : PF st1 (K27 s) (f_X11_alike p0 p1 p2 σ) := by
  unfold f_X11_alike
  exact (PF.bnd (wf_X11_isMessage  (K27.i (by first | exact .inl (by decide) | exact .inr (.inl (by decide)) | exact .inr (.inr (by decide))) h)) (fun q1 hq1 => (PF.ite (fun _ => (PF.ret1 hq1)) (fun _ => (PF.bnd (wf_X11_isMessage  hq1) (fun q3 hq3 => (PF.ite (fun _ => (PF.ret1 hq3)) (fun _ => (PF.bnd (wf_X11_isPlanAt  hq3) (fun q5 hq5 => (PF.ite (fun _ => (PF.ret1 hq5)) (fun _ => (PF.bnd (wf_X11_readsAll  hq5) (fun q7 hq7 => (PF.ite (fun _ => (PF.bnd (wf_T_X11_orders (K27.i (by first | exact .inl (by decide) | exact .inr (.inl (by decide)) | exact .inr (.inr (by decide))) hq7)) (fun q9 hq9 => (wf_X11_alike_66  _ _ _ _ _ _ hq9)))) (fun _ => (PF.ret1 hq7)))))))))))))))))
theorem wf_X11_kept {s : ST} {p0 : Int32} {σ : ST}   (h : K27 s σ) : PF st1 (K27 s) (f_X11_kept p0 σ) := by
  unfold f_X11_kept
  exact (PF.ite (fun _ => (PF.ret1 (K27.i (by first | exact .inl (by decide) | exact .inr (.inl (by decide)) | exact .inr (.inr (by decide))) h))) (fun _ => (PF.bnd (wf_X11_within  (K27.i (by first | exact .inl (by decide) | exact .inr (.inl (by decide)) | exact .inr (.inr (by decide))) h)) (fun q1 hq1 => (PF.ite (fun _ => (PF.ret1 hq1)) (fun _ => (PF.ite (fun _ => (PF.ret1 hq1)) (fun _ => PF.none))))))))
theorem wf_X11_messageSet_26 {s : ST} {k4 : Int32 → Int32 → ST → Option (Int32 × ST)} {x2 : Int32} {y0 : Int32} {y1 : Int32} {σ : ST} (h_k4 : ∀ (x1 : Int32) (x2 : Int32) (σ : ST), K27 s σ → PF st1 (K27 s) (k4 x1 x2 σ))  (h : K27 s σ) : PF st1 (K27 s) (f_X11_messageSet_26 k4 x2 y0 y1 σ) := by
  unfold f_X11_messageSet_26
  exact (h_k4 _ _ _ h)
theorem wf_X11_messageSet_4 {s : ST}    : ∀ (n : Nat) (x1 : Int32) (x2 : Int32) (σ : ST), K27 s σ → PF st1 (K27 s) (f_X11_messageSet_4  n x1 x2 σ) := by
  intro n
  induction n with
  | zero => intro x1 x2 σ h; rw [f_X11_messageSet_4]; exact PF.none
  | succ n ih =>
    intro x1 x2 σ h
    rw [f_X11_messageSet_4]
    exact (PF.ite (fun _ => (PF.ret1 h)) (fun _ => (PF.ite (fun _ => (PF.ite (fun _ => (wf_X11_messageSet_26 ih h)) (fun _ => (wf_X11_messageSet_26 ih h)))) (fun _ => PF.none))))
theorem wf_X11_messageSet {s : ST}  {σ : ST}   (h : K27 s σ) : PF st1 (K27 s) (f_X11_messageSet σ) := by
  unfold f_X11_messageSet
  exact (wf_X11_messageSet_4  _ _ _ _ h)
theorem wf_X11_count {s : ST} {p0 : Int32} {σ : ST}   (h : K27 s σ) : PF st1 (K27 s) (f_X11_count p0 σ) := by
  unfold f_X11_count
  exact (PF.ite (fun _ => (PF.ret1 (K27.i (by first | exact .inl (by decide) | exact .inr (.inl (by decide)) | exact .inr (.inr (by decide))) h))) (fun _ => (PF.ite (fun _ => (PF.bnd (wf_X11_messageSet  (K27.i (by first | exact .inl (by decide) | exact .inr (.inl (by decide)) | exact .inr (.inr (by decide))) h)) (fun q7 hq7 => (PF.ret1 hq7)))) (fun _ => (PF.ite (fun _ => (PF.ret1 (K27.i (by first | exact .inl (by decide) | exact .inr (.inl (by decide)) | exact .inr (.inr (by decide))) h))) (fun _ => (PF.ite (fun _ => (PF.ret1 (K27.i (by first | exact .inl (by decide) | exact .inr (.inl (by decide)) | exact .inr (.inr (by decide))) h))) (fun _ => (PF.ite (fun _ => (PF.ret1 (K27.i (by first | exact .inl (by decide) | exact .inr (.inl (by decide)) | exact .inr (.inr (by decide))) h))) (fun _ => (PF.ite (fun _ => (PF.ret1 (K27.i (by first | exact .inl (by decide) | exact .inr (.inl (by decide)) | exact .inr (.inr (by decide))) h))) (fun _ => (PF.ret1 (K27.i (by first | exact .inl (by decide) | exact .inr (.inl (by decide)) | exact .inr (.inr (by decide))) h))))))))))))))
theorem wf_fB (j : Nat) (pr : Nat → Int32) (τ : ST) : PF st2 (K27 τ) (fB j pr τ) := by
  match j with
  | 0 => exact PF.bnd (wf_X11_feed K27.rf) (fun q hq => PF.ret2 hq)
  | 1 => exact wf_X11_plans K27.rf
  | 2 => exact wf_X11_write K27.rf
  | 3 => exact PF.bnd (wf_X11_record_ K27.rf) (fun q hq => PF.ret2 hq)
  | 4 => exact PF.bnd (wf_X11_field_ K27.rf) (fun q hq => PF.ret2 hq)
  | 5 => exact PF.bnd (wf_X11_message K27.rf) (fun q hq => PF.ret2 hq)
  | 6 => exact PF.bnd (wf_X11_byteAt_ K27.rf) (fun q hq => PF.ret2 hq)
  | 7 => exact PF.bnd (wf_X11_spoil K27.rf) (fun q hq => PF.ret2 hq)
  | 8 => exact PF.bnd (wf_X11_cut K27.rf) (fun q hq => PF.ret2 hq)
  | 9 => exact PF.bnd (wf_X11_matches K27.rf) (fun q hq => PF.ret2 hq)
  | 10 => exact PF.bnd (wf_X11_miss K27.rf) (fun q hq => PF.ret2 hq)
  | 11 => exact PF.bnd (wf_X11_missStep K27.rf) (fun q hq => PF.ret2 hq)
  | 12 => exact PF.bnd (wf_X11_readers K27.rf) (fun q hq => PF.ret2 hq)
  | 13 => exact PF.bnd (wf_X11_read K27.rf) (fun q hq => PF.ret2 hq)
  | 14 => exact PF.bnd (wf_X11_failure K27.rf) (fun q hq => PF.ret2 hq)
  | 15 => exact PF.bnd (wf_X11_failureStep K27.rf) (fun q hq => PF.ret2 hq)
  | 16 => exact PF.bnd (wf_X11_node K27.rf) (fun q hq => PF.ret2 hq)
  | 17 => exact PF.bnd (wf_X11_value_ K27.rf) (fun q hq => PF.ret2 hq)
  | 18 => exact PF.bnd (wf_X11_letter K27.rf) (fun q hq => PF.ret2 hq)
  | 19 => exact PF.bnd (wf_X11_convert K27.rf) (fun q hq => PF.ret2 hq)
  | 20 => exact PF.bnd (wf_X11_alike K27.rf) (fun q hq => PF.ret2 hq)
  | 21 => exact PF.bnd (wf_X11_kept K27.rf) (fun q hq => PF.ret2 hq)
  | 22 => exact PF.bnd (wf_X11_count K27.rf) (fun q hq => PF.ret2 hq)
  | j + 23 => exact PF.ret2 K27.rf
