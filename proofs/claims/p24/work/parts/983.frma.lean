/-! what most calls leave of the messages, the pairs kept and what is shown (wip/st5/frames8.py) -/
def KYA (s σ : ST) : Prop := (∀ c, (38 ≤ c ∧ c ≤ 40 ∨ 48 ≤ c ∧ c ≤ 61) → σ.1 c = s.1 c) ∧ σ.2.1 56 = s.2.1 56
theorem KYA.rf {s : ST} : KYA s s := ⟨fun _ _ => rfl, rfl⟩
theorem KYA.i {s σ : ST} {c i : Nat} {v : Int32} (hc : (c < 38 ∨ 40 < c) ∧ (c < 48 ∨ 61 < c)) (h : KYA s σ) : KYA s (stI σ c i v) := ⟨fun d hd => (stI_ne (by omega)).trans (h.1 d hd), h.2⟩
theorem KYA.l {s σ : ST} {c i : Nat} {v : Int64} (hc : c ≠ 56) (h : KYA s σ) : KYA s (stL σ c i v) := ⟨h.1, (stL_ne (by omega)).trans h.2⟩
theorem KYA.f {s σ : ST} {c : Nat} {f : Nat → Int32} (hc : (c < 38 ∨ 40 < c) ∧ (c < 48 ∨ 61 < c)) (h : KYA s σ) : KYA s (stF σ c f) := ⟨fun d hd => (stF_ne5 (by omega)).trans (h.1 d hd), h.2⟩
theorem KYA.r {s σ : ST} {c v : Nat} (h : KYA s σ) : KYA s (stR σ c v) := h
def KZA (s σ : ST) : Prop := (∀ c, 48 ≤ c → c ≤ 61 → σ.1 c = s.1 c) ∧ σ.2.1 56 = s.2.1 56
theorem KZA.rf {s : ST} : KZA s s := ⟨fun _ _ _ => rfl, rfl⟩
theorem KZA.i {s σ : ST} {c i : Nat} {v : Int32} (hc : c < 48 ∨ 61 < c) (h : KZA s σ) : KZA s (stI σ c i v) := ⟨fun d h1 h2 => (stI_ne (by omega)).trans (h.1 d h1 h2), h.2⟩
theorem KZA.l {s σ : ST} {c i : Nat} {v : Int64} (hc : c ≠ 56) (h : KZA s σ) : KZA s (stL σ c i v) := ⟨h.1, (stL_ne (by omega)).trans h.2⟩
theorem KZA.f {s σ : ST} {c : Nat} {f : Nat → Int32} (hc : c < 48 ∨ 61 < c) (h : KZA s σ) : KZA s (stF σ c f) := ⟨fun d h1 h2 => (stF_ne5 (by omega)).trans (h.1 d h1 h2), h.2⟩
def KYB (s σ : ST) : Prop := (∀ c, (32 ≤ c ∧ c ≤ 34 ∨ 42 ≤ c ∧ c ≤ 46 ∨ c = 55) → σ.1 c = s.1 c) ∧ (∀ i, (i = 73 ∨ 92 ≤ i ∧ i ≤ 94) → σ.1 0 i = s.1 0 i) ∧ σ.2.1 47 = s.2.1 47 ∧ σ.2.1 48 = s.2.1 48
theorem KYB.rf {s : ST} : KYB s s := ⟨fun _ _ => rfl, fun _ _ => rfl, rfl, rfl⟩
theorem KYB.trans {a b c : ST} (h : KYB a b) (k : KYB b c) : KYB a c := ⟨fun d hd => (k.1 d hd).trans (h.1 d hd), fun i hi => (k.2.1 i hi).trans (h.2.1 i hi), k.2.2.1.trans h.2.2.1, k.2.2.2.trans h.2.2.2⟩
theorem KYB.i {s σ : ST} {c i : Nat} {v : Int32} (hc : (c < 32 ∨ 34 < c) ∧ (c < 42 ∨ 46 < c) ∧ c ≠ 55 ∧ (c ≠ 0 ∨ i ≠ 73 ∧ (i < 92 ∨ 94 < i))) (h : KYB s σ) : KYB s (stI σ c i v) := by
  refine ⟨fun d hd => ?_, fun j hj => ?_, h.2.2⟩
  · rw [stI_ne (by omega)]
    exact h.1 d hd
  · by_cases e : c = 0
    · subst e
      rw [stI_at, upN (by omega)]
      exact h.2.1 j hj
    · rw [stI_ne (fun h => e h.symm)]
      exact h.2.1 j hj
theorem KYB.l {s σ : ST} {c i : Nat} {v : Int64} (hc : c ≠ 47 ∧ c ≠ 48) (h : KYB s σ) : KYB s (stL σ c i v) := ⟨h.1, h.2.1, (stL_ne (by omega)).trans h.2.2.1, (stL_ne (by omega)).trans h.2.2.2⟩
theorem KYB.d {s σ : ST} {c i : Nat} {v : UInt64} (h : KYB s σ) : KYB s (stD σ c i v) := h
def KZB (s σ : ST) : Prop := (∀ c, (42 ≤ c ∧ c ≤ 46 ∨ c = 55) → σ.1 c = s.1 c) ∧ (∀ i, (i = 73 ∨ 92 ≤ i ∧ i ≤ 94) → σ.1 0 i = s.1 0 i) ∧ σ.2.1 47 = s.2.1 47 ∧ σ.2.1 48 = s.2.1 48
theorem KZB.rf {s : ST} : KZB s s := ⟨fun _ _ => rfl, fun _ _ => rfl, rfl, rfl⟩
theorem KZB.i {s σ : ST} {c i : Nat} {v : Int32} (hc : (c < 42 ∨ 46 < c) ∧ c ≠ 55 ∧ (c ≠ 0 ∨ i ≠ 73 ∧ (i < 92 ∨ 94 < i))) (h : KZB s σ) : KZB s (stI σ c i v) := by
  refine ⟨fun d hd => ?_, fun j hj => ?_, h.2.2⟩
  · rw [stI_ne (by omega)]
    exact h.1 d hd
  · by_cases e : c = 0
    · subst e
      rw [stI_at, upN (by omega)]
      exact h.2.1 j hj
    · rw [stI_ne (fun h => e h.symm)]
      exact h.2.1 j hj
theorem KZB.l {s σ : ST} {c i : Nat} {v : Int64} (hc : c ≠ 47 ∧ c ≠ 48) (h : KZB s σ) : KZB s (stL σ c i v) := ⟨h.1, h.2.1, (stL_ne (by omega)).trans h.2.2.1, (stL_ne (by omega)).trans h.2.2.2⟩
theorem KZB.d {s σ : ST} {c i : Nat} {v : UInt64} (h : KZB s σ) : KZB s (stD σ c i v) := h
theorem wy_X11_spelt {s : ST} {p0 p1 p2 p3 p4 p5 : Int32} {σ : ST} (h : KYB s σ) : PF st2 (KYB s) (f_X11_spelt p0 p1 p2 p3 p4 p5 σ) := by
  unfold f_X11_spelt
  intro q e
  obtain ⟨r, e1, e2⟩ := bnd_some e
  cases e2
  exact h
theorem wkz_X11_spelt {s : ST} {p0 p1 p2 p3 p4 p5 : Int32} {σ : ST} (h : KZB s σ) : PF st2 (KZB s) (f_X11_spelt p0 p1 p2 p3 p4 p5 σ) := by
  unfold f_X11_spelt
  intro q e
  obtain ⟨r, e1, e2⟩ := bnd_some e
  cases e2
  exact h
theorem wy_X11_rootType {s σ : ST} (h : KYB s σ) : PF st1 (KYB s) (f_X11_rootType σ) := by
  unfold f_X11_rootType
  exact PF.ret1 ((h.i (by omega)).i (by omega))
theorem wkz_X11_rootType {s σ : ST} (h : KZB s σ) : PF st1 (KZB s) (f_X11_rootType σ) := by
  unfold f_X11_rootType
  exact PF.ret1 ((h.i (by omega)).i (by omega))
theorem wy_X10_feedFour_40 {s : ST} {k3 : Int32 → Int32 → ST → Option (ST)} {x1 : Int32} {x2 : Int32} {σ : ST} (h_k3 : ∀ (x1 : Int32) (x2 : Int32) (σ : ST), KYA s σ → PF st0 (KYA s) (k3 x1 x2 σ))  (h : KYA s σ) : PF st0 (KYA s) (f_X10_feedFour_40 k3 x1 x2 σ) := by
  unfold f_X10_feedFour_40
  exact (h_k3 _ _ _ h)
theorem wy_X10_feedFour_3 {s : ST}    : ∀ (n : Nat) (x1 : Int32) (x2 : Int32) (σ : ST), KYA s σ → PF st0 (KYA s) (f_X10_feedFour_3  n x1 x2 σ) := by
  intro n
  induction n with
  | zero => intro x1 x2 σ h; rw [f_X10_feedFour_3]; exact PF.none
  | succ n ih =>
    intro x1 x2 σ h
    rw [f_X10_feedFour_3]
    exact (PF.ite (fun _ => (PF.ret0 h)) (fun _ => (PF.ite (fun _ => (wy_X10_feedFour_40 ih h)) (fun _ => (PF.ite (fun _ => (PF.bnd (PF.ret0 (KYA.i (by omega) (KYA.i (by omega) h))) (fun z2 hz2 => (wy_X10_feedFour_40 ih hz2)))) (fun _ => PF.none))))))
theorem wy_X10_feedFour {s : ST} {p0 : Int32} {σ : ST}   (h : KYA s σ) : PF st0 (KYA s) (f_X10_feedFour p0 σ) := by
  unfold f_X10_feedFour
  exact (wy_X10_feedFour_3  _ _ _ _ h)
theorem wy_X10_feed {s : ST} {p0 : Int32} {p1 : Int32} {p2 : Int32} {p3 : Int32} {p4 : Int32} {σ : ST}   (h : KYA s σ) : PF st1 (KYA s) (f_X10_feed p0 p1 p2 p3 p4 σ) := by
  unfold f_X10_feed
  exact (PF.ite (fun _ => (PF.bnd (wy_X10_feedFour  h) (fun q1 hq1 => (PF.bnd (wy_X10_feedFour  hq1) (fun q3 hq3 => (PF.bnd (wy_X10_feedFour  hq3) (fun q5 hq5 => (PF.bnd (wy_X10_feedFour  hq5) (fun q7 hq7 => (PF.bnd (wy_X10_feedFour  hq7) (fun q9 hq9 => (PF.ret1 hq9)))))))))))) (fun _ => (PF.ret1 h)))
theorem wy_X10_isPlan {s : ST} {p0 : Int32} {σ : ST}   (h : KYA s σ) : PF st1 (KYA s) (f_X10_isPlan p0 σ) := by
  unfold f_X10_isPlan
  exact (PF.ite (fun _ => (PF.ret1 h)) (fun _ => (PF.ite (fun _ => (PF.ret1 h)) (fun _ => (PF.ret1 h)))))
theorem wy_X5_recordsOf {s : ST} {b : Nat} {p0 : Int32} {σ : ST}   (h : KYA s σ) : PF st1 (KYA s) (f_X5_recordsOf b p0 σ) := by
  unfold f_X5_recordsOf
  exact (PF.ite (fun _ => (PF.ret1 h)) (fun _ => (PF.ite (fun _ => (PF.ret1 h)) (fun _ => (PF.ite (fun _ => (PF.ret1 h)) (fun _ => PF.none))))))
theorem wy_X5_isRecord {s : ST} {p0 : Int32} {σ : ST}   (h : KYA s σ) : PF st1 (KYA s) (f_X5_isRecord p0 σ) := by
  unfold f_X5_isRecord
  exact (PF.ite (fun _ => (PF.ret1 h)) (fun _ => (PF.ite (fun _ => (PF.ret1 h)) (fun _ => (PF.ret1 h)))))
theorem wy_X5_fieldsOf {s : ST} {b : Nat} {p0 : Int32} {σ : ST}   (h : KYA s σ) : PF st1 (KYA s) (f_X5_fieldsOf b p0 σ) := by
  unfold f_X5_fieldsOf
  exact (PF.bnd (wy_X5_isRecord  h) (fun q1 hq1 => (PF.ite (fun _ => (PF.ret1 hq1)) (fun _ => (PF.ite (fun _ => (PF.ret1 hq1)) (fun _ => PF.none))))))
theorem wy_X5_recordName {s : ST} {b : Nat} {p0 : Int32} {σ : ST}   (h : KYA s σ) : PF st1 (KYA s) (f_X5_recordName b p0 σ) := by
  unfold f_X5_recordName
  exact (PF.bnd (wy_X5_isRecord  h) (fun q1 hq1 => (PF.ite (fun _ => (PF.ret1 hq1)) (fun _ => (PF.ite (fun _ => (PF.ret1 hq1)) (fun _ => PF.none))))))
theorem wy_X10_letterOf_10 {s : ST}  {σ : ST}   (h : KYA s σ) : PF st1 (KYA s) (f_X10_letterOf_10 σ) := by
  unfold f_X10_letterOf_10
  exact (PF.ret1 h)
theorem wy_X10_letterOf {s : ST} {p0 : Int64} {p1 : Int32} {σ : ST}   (h : KYA s σ) : PF st1 (KYA s) (f_X10_letterOf p0 p1 σ) := by
  unfold f_X10_letterOf
  exact (PF.ite (fun _ => (wy_X10_letterOf_10  h)) (fun _ => (PF.ite (fun _ => (PF.ret1 h)) (fun _ => (wy_X10_letterOf_10  h)))))
theorem wy_X10_lettersIn_2 {s : ST}    : ∀ (n : Nat) (x1 : Int64) (x2 : Int32) (σ : ST), KYA s σ → PF st1 (KYA s) (f_X10_lettersIn_2  n x1 x2 σ) := by
  intro n
  induction n with
  | zero => intro x1 x2 σ h; rw [f_X10_lettersIn_2]; exact PF.none
  | succ n ih =>
    intro x1 x2 σ h
    rw [f_X10_lettersIn_2]
    exact (PF.ite (fun _ => (PF.ret1 h)) (fun _ => (PF.bnd (wy_X10_letterOf  h) (fun q1 hq1 => (PF.ite (fun _ => (PF.ret1 hq1)) (fun _ => (ih _ _ _ hq1)))))))
theorem wy_X10_lettersIn {s : ST} {p0 : Int64} {σ : ST}   (h : KYA s σ) : PF st1 (KYA s) (f_X10_lettersIn p0 σ) := by
  unfold f_X10_lettersIn
  exact (wy_X10_lettersIn_2  _ _ _ _ h)
theorem wy_X10_record {s : ST} {p0 : Int32} {p1 : Int32} {p2 : Int32} {σ : ST}   (h : KYA s σ) : PF st1 (KYA s) (f_X10_record p0 p1 p2 σ) := by
  unfold f_X10_record
  exact (PF.bnd (wy_X10_isPlan  h) (fun q1 hq1 => (PF.ite (fun _ => (PF.ret1 hq1)) (fun _ => (PF.bnd (wy_X5_recordsOf  hq1) (fun q3 hq3 => (PF.ite (fun _ => (PF.ret1 hq3)) (fun _ => (PF.ite (fun _ => (PF.ret1 hq3)) (fun _ => (PF.ite (fun _ => (PF.ite (fun _ => (PF.bnd (wy_X5_fieldsOf  hq3) (fun q7 hq7 => (PF.ret1 hq7)))) (fun _ => (PF.ite (fun _ => (PF.bnd (wy_X5_recordName  hq3) (fun q9 hq9 => (PF.bnd (wy_X10_lettersIn  hq9) (fun q11 hq11 => (PF.ret1 hq11)))))) (fun _ => (PF.ret1 hq3)))))) (fun _ => (PF.ret1 hq3)))))))))))))
theorem wy_X5_isFieldOf {s : ST} {p0 : Int32} {p1 : Int32} {σ : ST}   (h : KYA s σ) : PF st1 (KYA s) (f_X5_isFieldOf p0 p1 σ) := by
  unfold f_X5_isFieldOf
  exact (PF.ite (fun _ => (PF.ret1 h)) (fun _ => (PF.ite (fun _ => (PF.ret1 h)) (fun _ => (PF.ite (fun _ => (PF.ret1 h)) (fun _ => (PF.ite (fun _ => (PF.ret1 h)) (fun _ => (PF.ret1 h)))))))))
theorem wy_X5_typeOf {s : ST} {b : Nat} {p0 : Int32} {p1 : Int32} {σ : ST}   (h : KYA s σ) : PF st1 (KYA s) (f_X5_typeOf b p0 p1 σ) := by
  unfold f_X5_typeOf
  exact (PF.bnd (wy_X5_isFieldOf  h) (fun q1 hq1 => (PF.ite (fun _ => (PF.ret1 hq1)) (fun _ => (PF.ite (fun _ => (PF.ret1 hq1)) (fun _ => PF.none))))))
theorem wy_X5_isType {s : ST} {b : Nat} {p0 : Int32} {σ : ST}   (h : KYA s σ) : PF st1 (KYA s) (f_X5_isType b p0 σ) := by
  unfold f_X5_isType
  exact (PF.ite (fun _ => (PF.ret1 h)) (fun _ => (PF.ite (fun _ => (PF.ret1 h)) (fun _ => (PF.ite (fun _ => (PF.ret1 h)) (fun _ => (PF.ret1 h)))))))
theorem wy_X5_sortOf {s : ST} {b : Nat} {p0 : Int32} {σ : ST}   (h : KYA s σ) : PF st1 (KYA s) (f_X5_sortOf b p0 σ) := by
  unfold f_X5_sortOf
  exact (PF.bnd (wy_X5_isType  h) (fun q1 hq1 => (PF.ite (fun _ => (PF.ret1 hq1)) (fun _ => (PF.ite (fun _ => (PF.ret1 hq1)) (fun _ => PF.none))))))
theorem wy_X5_hasElse {s : ST} {b : Nat} {p0 : Int32} {p1 : Int32} {σ : ST}   (h : KYA s σ) : PF st1 (KYA s) (f_X5_hasElse b p0 p1 σ) := by
  unfold f_X5_hasElse
  exact (PF.bnd (wy_X5_isFieldOf  h) (fun q1 hq1 => (PF.ite (fun _ => (PF.ret1 hq1)) (fun _ => (PF.ite (fun _ => (PF.ite (fun _ => (PF.ret1 hq1)) (fun _ => (PF.ret1 hq1)))) (fun _ => PF.none))))))
theorem wy_X5_formerName {s : ST} {b : Nat} {p0 : Int32} {p1 : Int32} {σ : ST}   (h : KYA s σ) : PF st1 (KYA s) (f_X5_formerName b p0 p1 σ) := by
  unfold f_X5_formerName
  exact (PF.bnd (wy_X5_isFieldOf  h) (fun q1 hq1 => (PF.ite (fun _ => (PF.ret1 hq1)) (fun _ => (PF.ite (fun _ => (PF.ret1 hq1)) (fun _ => PF.none))))))
theorem wy_X5_fieldName {s : ST} {b : Nat} {p0 : Int32} {p1 : Int32} {σ : ST}   (h : KYA s σ) : PF st1 (KYA s) (f_X5_fieldName b p0 p1 σ) := by
  unfold f_X5_fieldName
  exact (PF.bnd (wy_X5_isFieldOf  h) (fun q1 hq1 => (PF.ite (fun _ => (PF.ret1 hq1)) (fun _ => (PF.ite (fun _ => (PF.ret1 hq1)) (fun _ => PF.none))))))
theorem wy_X5_innerOf {s : ST} {b : Nat} {p0 : Int32} {σ : ST}   (h : KYA s σ) : PF st1 (KYA s) (f_X5_innerOf b p0 σ) := by
  unfold f_X5_innerOf
  exact (PF.bnd (wy_X5_isType  h) (fun q1 hq1 => (PF.ite (fun _ => (PF.ret1 hq1)) (fun _ => (PF.ite (fun _ => (PF.ret1 hq1)) (fun _ => PF.none))))))
theorem wy_X5_branchAfter {s : ST} {b : Nat} {p0 : Int32} {σ : ST}   (h : KYA s σ) : PF st1 (KYA s) (f_X5_branchAfter b p0 σ) := by
  unfold f_X5_branchAfter
  exact (PF.bnd (wy_X5_isType  h) (fun q1 hq1 => (PF.ite (fun _ => (PF.ret1 hq1)) (fun _ => (PF.ite (fun _ => (PF.ret1 hq1)) (fun _ => PF.none))))))
theorem wy_X5_branchesOf_20 {s : ST} {b : Nat}   : ∀ (n : Nat) (x1 : Int32) (x2 : Int32) (σ : ST), KYA s σ → PF st1 (KYA s) (f_X5_branchesOf_20 b n x1 x2 σ) := by
  intro n
  induction n with
  | zero => intro x1 x2 σ h; rw [f_X5_branchesOf_20]; exact PF.none
  | succ n ih =>
    intro x1 x2 σ h
    rw [f_X5_branchesOf_20]
    exact (PF.ite (fun _ => (PF.ret1 h)) (fun _ => (PF.ite (fun _ => (PF.ret1 h)) (fun _ => (PF.bnd (wy_X5_branchAfter  h) (fun q1 hq1 => (ih _ _ _ hq1)))))))
theorem wy_X5_branchesOf {s : ST} {b : Nat} {p0 : Int32} {σ : ST}   (h : KYA s σ) : PF st1 (KYA s) (f_X5_branchesOf b p0 σ) := by
  unfold f_X5_branchesOf
  exact (PF.bnd (wy_X5_sortOf  h) (fun q1 hq1 => (PF.ite (fun _ => (PF.bnd (wy_X5_innerOf  hq1) (fun q3 hq3 => (wy_X5_branchesOf_20  _ _ _ _ hq3)))) (fun _ => (PF.ret1 hq1)))))
theorem wy_J9_floorMod_7cf53 {s : ST} {p0 : Int32} {p1 : Int32} {σ : ST}   (h : KYA s σ) : PF st1 (KYA s) (f_J9_floorMod_7cf53 p0 p1 σ) := by
  unfold f_J9_floorMod_7cf53
  exact (PF.ite (fun _ => (PF.ite (fun _ => (PF.ret1 h)) (fun _ => (PF.ite (fun _ => (PF.ret1 h)) (fun _ => (PF.ret1 h)))))) (fun _ => PF.none))
theorem wy_X5_recordWithin_31 {s : ST} {b : Nat} {x2 : Int32} {σ : ST}   (h : KYA s σ) : PF st1 (KYA s) (f_X5_recordWithin_31 b x2 σ) := by
  unfold f_X5_recordWithin_31
  exact (PF.bnd (wy_X5_sortOf  h) (fun q1 hq1 => (PF.ite (fun _ => (PF.bnd (wy_X5_innerOf  hq1) (fun q3 hq3 => (PF.bnd (wy_J9_floorMod_7cf53  hq3) (fun q5 hq5 => (PF.ret1 hq5)))))) (fun _ => (PF.ret1 hq1)))))
theorem wy_X5_recordWithin_4 {s : ST} {b : Nat}   : ∀ (n : Nat) (x1 : Int32) (x2 : Int32) (σ : ST), KYA s σ → PF st1 (KYA s) (f_X5_recordWithin_4 b n x1 x2 σ) := by
  intro n
  induction n with
  | zero => intro x1 x2 σ h; rw [f_X5_recordWithin_4]; exact PF.none
  | succ n ih =>
    intro x1 x2 σ h
    rw [f_X5_recordWithin_4]
    exact (PF.ite (fun _ => (wy_X5_recordWithin_31  h)) (fun _ => (PF.bnd (wy_X5_sortOf  h) (fun q1 hq1 => (PF.ite (fun _ => (PF.bnd (wy_X5_innerOf  hq1) (fun q3 hq3 => (ih _ _ _ hq3)))) (fun _ => (wy_X5_recordWithin_31  hq1)))))))
theorem wy_X5_recordWithin {s : ST} {b : Nat} {p0 : Int32} {σ : ST}   (h : KYA s σ) : PF st1 (KYA s) (f_X5_recordWithin b p0 σ) := by
  unfold f_X5_recordWithin
  exact (wy_X5_recordWithin_4  _ _ _ _ h)
theorem wy_X10_field {s : ST} {p0 : Int32} {p1 : Int32} {p2 : Int32} {p3 : Int32} {σ : ST}   (h : KYA s σ) : PF st1 (KYA s) (f_X10_field p0 p1 p2 p3 σ) := by
  unfold f_X10_field
  exact (PF.bnd (wy_X10_isPlan  h) (fun q1 hq1 => (PF.ite (fun _ => (PF.ret1 hq1)) (fun _ => (PF.ite (fun _ => (PF.ret1 hq1)) (fun _ => (PF.bnd (wy_X5_recordsOf  hq1) (fun q3 hq3 => (PF.ite (fun _ => (PF.ite (fun _ => (PF.ret1 hq3)) (fun _ => (PF.bnd (wy_X5_fieldsOf  hq3) (fun q5 hq5 => (PF.ite (fun _ => (PF.bnd (wy_X5_typeOf  hq5) (fun q7 hq7 => (PF.ite (fun _ => (PF.bnd (wy_X5_sortOf  hq7) (fun q15 hq15 => (PF.ret1 hq15)))) (fun _ => (PF.ite (fun _ => (PF.bnd (wy_X5_hasElse  hq7) (fun q17 hq17 => (PF.ite (fun _ => (PF.ret1 hq17)) (fun _ => (PF.ret1 hq17)))))) (fun _ => (PF.ite (fun _ => (PF.bnd (wy_X5_formerName  hq7) (fun q19 hq19 => (PF.ite (fun _ => (PF.ret1 hq19)) (fun _ => (PF.ret1 hq19)))))) (fun _ => (PF.ite (fun _ => (PF.bnd (wy_X5_fieldName  hq7) (fun q21 hq21 => (PF.bnd (wy_X10_lettersIn  hq21) (fun q23 hq23 => (PF.ret1 hq23)))))) (fun _ => (PF.ite (fun _ => (PF.bnd (wy_X5_branchesOf  hq7) (fun q25 hq25 => (PF.ret1 hq25)))) (fun _ => (PF.ite (fun _ => (PF.bnd (wy_X5_recordWithin  hq7) (fun q27 hq27 => (PF.ret1 hq27)))) (fun _ => (PF.ret1 hq7)))))))))))))))) (fun _ => (PF.ret1 hq5)))))))) (fun _ => (PF.ret1 hq3)))))))))))
theorem wy_X1_isNumber {s : ST} {p0 : Int32} {σ : ST}   (h : KYA s σ) : PF st1 (KYA s) (f_X1_isNumber p0 σ) := by
  unfold f_X1_isNumber
  exact (PF.ite (fun _ => (PF.ret1 h)) (fun _ => (PF.ite (fun _ => (PF.ret1 h)) (fun _ => (PF.ret1 h)))))
theorem wy_X1_isWritten {s : ST} {p0 : Int32} {σ : ST}   (h : KYA s σ) : PF st1 (KYA s) (f_X1_isWritten p0 σ) := by
  unfold f_X1_isWritten
  exact (PF.bnd (wy_X1_isNumber  h) (fun q1 hq1 => (PF.ite (fun _ => (PF.ret1 hq1)) (fun _ => (PF.ite (fun _ => (PF.ite (fun _ => (PF.ret1 hq1)) (fun _ => (PF.ret1 hq1)))) (fun _ => PF.none))))))
theorem wy_X1_sizeOf {s : ST} {p0 : Int32} {σ : ST}   (h : KYA s σ) : PF st1 (KYA s) (f_X1_sizeOf p0 σ) := by
  unfold f_X1_sizeOf
  exact (PF.bnd (wy_X1_isNumber  h) (fun q1 hq1 => (PF.ite (fun _ => (PF.ret1 hq1)) (fun _ => (PF.ite (fun _ => (PF.ret1 hq1)) (fun _ => PF.none))))))
theorem wy_X1_planOf {s : ST} {p0 : Int32} {σ : ST}   (h : KYA s σ) : PF st1 (KYA s) (f_X1_planOf p0 σ) := by
  unfold f_X1_planOf
  exact (PF.bnd (wy_X1_isNumber  h) (fun q1 hq1 => (PF.ite (fun _ => (PF.ret1 hq1)) (fun _ => (PF.ite (fun _ => (PF.ret1 hq1)) (fun _ => PF.none))))))
theorem wy_X10_message {s : ST} {p0 : Int32} {p1 : Int32} {σ : ST}   (h : KYA s σ) : PF st1 (KYA s) (f_X10_message p0 p1 σ) := by
  unfold f_X10_message
  exact (PF.bnd (wy_X1_isWritten  h) (fun q1 hq1 => (PF.ite (fun _ => (PF.ret1 hq1)) (fun _ => (PF.ite (fun _ => (PF.bnd (wy_X1_sizeOf  hq1) (fun q5 hq5 => (PF.ret1 hq5)))) (fun _ => (PF.ite (fun _ => (PF.bnd (wy_X1_planOf  hq1) (fun q7 hq7 => (PF.ret1 hq7)))) (fun _ => (PF.ret1 hq1)))))))))
theorem wy_X1_hasByte {s : ST} {p0 : Int32} {p1 : Int32} {σ : ST}   (h : KYA s σ) : PF st1 (KYA s) (f_X1_hasByte p0 p1 σ) := by
  unfold f_X1_hasByte
  exact (PF.bnd (wy_X1_isWritten  h) (fun q1 hq1 => (PF.ite (fun _ => (PF.ret1 hq1)) (fun _ => (PF.ite (fun _ => (PF.ret1 hq1)) (fun _ => (PF.ite (fun _ => (PF.ite (fun _ => (PF.ret1 hq1)) (fun _ => (PF.ite (fun _ => (PF.ret1 hq1)) (fun _ => (PF.ret1 hq1)))))) (fun _ => PF.none))))))))
theorem wy_X1_byteOf {s : ST} {p0 : Int32} {p1 : Int32} {σ : ST}   (h : KYA s σ) : PF st1 (KYA s) (f_X1_byteOf p0 p1 σ) := by
  unfold f_X1_byteOf
  exact (PF.ite (fun _ => (PF.ret1 h)) (fun _ => (PF.ite (fun _ => (PF.ret1 h)) (fun _ => (PF.ite (fun _ => (PF.ret1 h)) (fun _ => PF.none))))))
theorem wy_X10_byteAt {s : ST} {p0 : Int32} {p1 : Int32} {σ : ST}   (h : KYA s σ) : PF st1 (KYA s) (f_X10_byteAt p0 p1 σ) := by
  unfold f_X10_byteAt
  exact (PF.bnd (wy_X1_hasByte  h) (fun q1 hq1 => (PF.ite (fun _ => (PF.ret1 hq1)) (fun _ => (PF.bnd (wy_X1_byteOf  hq1) (fun q3 hq3 => (PF.ret1 hq3)))))))
theorem wy_X0_pairOf {s : ST} {p0 : Int32} {p1 : Int32} {σ : ST}   (h : KYA s σ) : PF st1 (KYA s) (f_X0_pairOf p0 p1 σ) := by
  unfold f_X0_pairOf
  exact (PF.ite (fun _ => (PF.ret1 h)) (fun _ => (PF.ite (fun _ => (PF.ret1 h)) (fun _ => (PF.ite (fun _ => (PF.ret1 h)) (fun _ => (PF.ite (fun _ => (PF.ret1 h)) (fun _ => (PF.ret1 h)))))))))
theorem wy_X0_bitOf {s : ST} {p0 : Int32} {p1 : Int32} {σ : ST}   (h : KYA s σ) : PF st1 (KYA s) (f_X0_bitOf p0 p1 σ) := by
  unfold f_X0_bitOf
  exact (PF.bnd (wy_J9_floorMod_7cf53  h) (fun q1 hq1 => (PF.bnd (wy_J9_floorMod_7cf53  hq1) (fun q3 hq3 => (PF.ret1 hq3)))))
theorem wy_X0_relate_186 {s : ST} {k87 : Int32 → Int32 → Int64 → Int32 → ST → Option (ST)} {k111 : Int32 → Int32 → Int64 → Int32 → Int32 → ST → Option (ST)} {k121 : Int32 → Int32 → Int64 → Int32 → Int32 → Int32 → ST → Option (ST)} {x1 : Int32} {x2 : Int32} {x3 : Int64} {x5 : Int32} {x6 : Int32} {x7 : Int32} {σ : ST} (h_k87 : ∀ (x1 : Int32) (x2 : Int32) (x3 : Int64) (x4 : Int32) (σ : ST), KYA s σ → PF st0 (KYA s) (k87 x1 x2 x3 x4 σ)) (h_k111 : ∀ (x1 : Int32) (x2 : Int32) (x3 : Int64) (x4 : Int32) (x5 : Int32) (σ : ST), KYA s σ → PF st0 (KYA s) (k111 x1 x2 x3 x4 x5 σ)) (h_k121 : ∀ (x1 : Int32) (x2 : Int32) (x3 : Int64) (x4 : Int32) (x5 : Int32) (x6 : Int32) (σ : ST), KYA s σ → PF st0 (KYA s) (k121 x1 x2 x3 x4 x5 x6 σ))  (h : KYA s σ) : PF st0 (KYA s) (f_X0_relate_186 k87 k111 k121 x1 x2 x3 x5 x6 x7 σ) := by
  unfold f_X0_relate_186
  exact (h_k121 _ _ _ _ _ _ _ h)
theorem wy_X5_fieldNamed_29 {s : ST} {b : Nat}   : ∀ (n : Nat) (x1 : Int64) (x2 : Int32) (x3 : Int32) (x4 : Int32) (σ : ST), KYA s σ → PF st1 (KYA s) (f_X5_fieldNamed_29 b n x1 x2 x3 x4 σ) := by
  intro n
  induction n with
  | zero => intro x1 x2 x3 x4 σ h; rw [f_X5_fieldNamed_29]; exact PF.none
  | succ n ih =>
    intro x1 x2 x3 x4 σ h
    rw [f_X5_fieldNamed_29]
    exact (PF.ite (fun _ => (PF.ret1 h)) (fun _ => (PF.ite (fun _ => (PF.ret1 h)) (fun _ => (PF.ite (fun _ => (PF.ite (fun _ => (PF.ret1 h)) (fun _ => (ih _ _ _ _ _ h)))) (fun _ => PF.none))))))
theorem wy_X5_fieldNamed_24 {s : ST} {b : Nat} {x2 : Int64} {x4 : Int32} {y0 : Int32} {σ : ST}   (h : KYA s σ) : PF st1 (KYA s) (f_X5_fieldNamed_24 b x2 x4 y0 σ) := by
  unfold f_X5_fieldNamed_24
  exact (wy_X5_fieldNamed_29  _ _ _ _ _ _ h)
theorem wy_X5_fieldNamed {s : ST} {b : Nat} {p0 : Int32} {p1 : Int64} {σ : ST}   (h : KYA s σ) : PF st1 (KYA s) (f_X5_fieldNamed b p0 p1 σ) := by
  unfold f_X5_fieldNamed
  exact (PF.bnd (wy_X5_isFieldOf  h) (fun q1 hq1 => (PF.ite (fun _ => (wy_X5_fieldNamed_24  hq1)) (fun _ => (PF.ite (fun _ => (wy_X5_fieldNamed_24  hq1)) (fun _ => PF.none))))))
theorem wy_X5_sourceOf {s : ST} {b : Nat} {p0 : Int32} {p1 : Int32} {p2 : Int32} {σ : ST}   (h : KYA s σ) : PF st1 (KYA s) (f_X5_sourceOf b p0 p1 p2 σ) := by
  unfold f_X5_sourceOf
  exact (PF.bnd (wy_X5_fieldName  h) (fun q1 hq1 => (PF.bnd (wy_X5_fieldNamed  hq1) (fun q3 hq3 => (PF.bnd (wy_X5_formerName  hq3) (fun q5 hq5 => (PF.ite (fun _ => (PF.ite (fun _ => (PF.ret1 hq5)) (fun _ => (PF.bnd (wy_X5_fieldNamed  hq5) (fun q7 hq7 => (PF.ret1 hq7)))))) (fun _ => (PF.ret1 hq5)))))))))
theorem wy_X0_fieldsFit_68 {s : ST} {k2 : Int32 → Int32 → Int32 → ST → Option (Int32 × ST)} {x1 : Int32} {x2 : Int32} {x3 : Int32} {y0 : Int32} {σ : ST} (h_k2 : ∀ (x1 : Int32) (x2 : Int32) (x3 : Int32) (σ : ST), KYA s σ → PF st1 (KYA s) (k2 x1 x2 x3 σ))  (h : KYA s σ) : PF st1 (KYA s) (f_X0_fieldsFit_68 k2 x1 x2 x3 y0 σ) := by
  unfold f_X0_fieldsFit_68
  exact (PF.ite (fun _ => (PF.ret1 h)) (fun _ => (h_k2 _ _ _ _ h)))
theorem wy_X0_chosenWithin_79 {s : ST} {r_X0_chosenWithin : Int32 → Int32 → Int32 → ST → Option (Int32 × ST)} {r_X0_fitsWithin : Int32 → Int32 → Int32 → ST → Option (Int32 × ST)} {k16 : Int32 → Int32 → Int32 → Int32 → Int32 → ST → Option (Int32 × ST)} {x1 : Int32} {x3 : Int32} {x4 : Int32} {x5 : Int32} {x6 : Int32} {σ : ST} (h_r_X0_chosenWithin : ∀ (x1 : Int32) (x2 : Int32) (x3 : Int32) (σ : ST), KYA s σ → PF st1 (KYA s) (r_X0_chosenWithin x1 x2 x3 σ)) (h_r_X0_fitsWithin : ∀ (x1 : Int32) (x2 : Int32) (x3 : Int32) (σ : ST), KYA s σ → PF st1 (KYA s) (r_X0_fitsWithin x1 x2 x3 σ)) (h_k16 : ∀ (x1 : Int32) (x2 : Int32) (x3 : Int32) (x4 : Int32) (x5 : Int32) (σ : ST), KYA s σ → PF st1 (KYA s) (k16 x1 x2 x3 x4 x5 σ))  (h : KYA s σ) : PF st1 (KYA s) (f_X0_chosenWithin_79 r_X0_chosenWithin r_X0_fitsWithin k16 x1 x3 x4 x5 x6 σ) := by
  unfold f_X0_chosenWithin_79
  exact (PF.bnd (wy_X5_branchAfter  h) (fun q1 hq1 => (h_k16 _ _ _ _ _ _ hq1)))
theorem wy_X0_chosenWithin_77 {s : ST} {r_X0_chosenWithin : Int32 → Int32 → Int32 → ST → Option (Int32 × ST)} {r_X0_fitsWithin : Int32 → Int32 → Int32 → ST → Option (Int32 × ST)} {k16 : Int32 → Int32 → Int32 → Int32 → Int32 → ST → Option (Int32 × ST)} {x1 : Int32} {x3 : Int32} {x5 : Int32} {x6 : Int32} {y0 : Int32} {σ : ST} (h_r_X0_chosenWithin : ∀ (x1 : Int32) (x2 : Int32) (x3 : Int32) (σ : ST), KYA s σ → PF st1 (KYA s) (r_X0_chosenWithin x1 x2 x3 σ)) (h_r_X0_fitsWithin : ∀ (x1 : Int32) (x2 : Int32) (x3 : Int32) (σ : ST), KYA s σ → PF st1 (KYA s) (r_X0_fitsWithin x1 x2 x3 σ)) (h_k16 : ∀ (x1 : Int32) (x2 : Int32) (x3 : Int32) (x4 : Int32) (x5 : Int32) (σ : ST), KYA s σ → PF st1 (KYA s) (k16 x1 x2 x3 x4 x5 σ))  (h : KYA s σ) : PF st1 (KYA s) (f_X0_chosenWithin_77 r_X0_chosenWithin r_X0_fitsWithin k16 x1 x3 x5 x6 y0 σ) := by
  unfold f_X0_chosenWithin_77
  exact (wy_X0_chosenWithin_79 h_r_X0_chosenWithin h_r_X0_fitsWithin h_k16 h)
theorem wy_X0_chosenWithin_16 {s : ST} {r_X0_chosenWithin : Int32 → Int32 → Int32 → ST → Option (Int32 × ST)} {r_X0_fitsWithin : Int32 → Int32 → Int32 → ST → Option (Int32 × ST)} (h_r_X0_chosenWithin : ∀ (x1 : Int32) (x2 : Int32) (x3 : Int32) (σ : ST), KYA s σ → PF st1 (KYA s) (r_X0_chosenWithin x1 x2 x3 σ)) (h_r_X0_fitsWithin : ∀ (x1 : Int32) (x2 : Int32) (x3 : Int32) (σ : ST), KYA s σ → PF st1 (KYA s) (r_X0_fitsWithin x1 x2 x3 σ))  : ∀ (n : Nat) (x1 : Int32) (x2 : Int32) (x3 : Int32) (x4 : Int32) (x5 : Int32) (σ : ST), KYA s σ → PF st1 (KYA s) (f_X0_chosenWithin_16 r_X0_chosenWithin r_X0_fitsWithin n x1 x2 x3 x4 x5 σ) := by
  intro n
  induction n with
  | zero => intro x1 x2 x3 x4 x5 σ h; rw [f_X0_chosenWithin_16]; exact PF.none
  | succ n ih =>
    intro x1 x2 x3 x4 x5 σ h
    rw [f_X0_chosenWithin_16]
    exact (PF.ite (fun _ => (PF.ret1 h)) (fun _ => (PF.ite (fun _ => (PF.ret1 h)) (fun _ => (PF.bnd (h_r_X0_fitsWithin _ _ _ _ h) (fun q1 hq1 => (PF.ite (fun _ => (wy_X0_chosenWithin_79 h_r_X0_chosenWithin h_r_X0_fitsWithin ih hq1)) (fun _ => (PF.bnd (wy_X5_sortOf  hq1) (fun q3 hq3 => (PF.bnd (wy_X5_sortOf  hq3) (fun q5 hq5 => (PF.ite (fun _ => (PF.ret1 hq5)) (fun _ => (PF.ite (fun _ => (wy_X0_chosenWithin_77 h_r_X0_chosenWithin h_r_X0_fitsWithin ih hq5)) (fun _ => (wy_X0_chosenWithin_77 h_r_X0_chosenWithin h_r_X0_fitsWithin ih hq5)))))))))))))))))
theorem wy_X0_chosenWithin {s : ST} {r_X0_chosenWithin : Int32 → Int32 → Int32 → ST → Option (Int32 × ST)} {r_X0_fitsWithin : Int32 → Int32 → Int32 → ST → Option (Int32 × ST)} {p0 : Int32} {p1 : Int32} {p2 : Int32} {σ : ST} (h_r_X0_chosenWithin : ∀ (x1 : Int32) (x2 : Int32) (x3 : Int32) (σ : ST), KYA s σ → PF st1 (KYA s) (r_X0_chosenWithin x1 x2 x3 σ)) (h_r_X0_fitsWithin : ∀ (x1 : Int32) (x2 : Int32) (x3 : Int32) (σ : ST), KYA s σ → PF st1 (KYA s) (r_X0_fitsWithin x1 x2 x3 σ))  (h : KYA s σ) : PF st1 (KYA s) (f_X0_chosenWithin r_X0_chosenWithin r_X0_fitsWithin p0 p1 p2 σ) := by
  unfold f_X0_chosenWithin
  exact (PF.bnd (wy_X5_innerOf  h) (fun q1 hq1 => (wy_X0_chosenWithin_16 h_r_X0_chosenWithin h_r_X0_fitsWithin _ _ _ _ _ _ _ hq1)))
theorem wy_X0_fitsWithin_48 {s : ST} {r_X0_chosenWithin : Int32 → Int32 → Int32 → ST → Option (Int32 × ST)} {r_X0_fitsWithin : Int32 → Int32 → Int32 → ST → Option (Int32 × ST)} (h_r_X0_chosenWithin : ∀ (x1 : Int32) (x2 : Int32) (x3 : Int32) (σ : ST), KYA s σ → PF st1 (KYA s) (r_X0_chosenWithin x1 x2 x3 σ)) (h_r_X0_fitsWithin : ∀ (x1 : Int32) (x2 : Int32) (x3 : Int32) (σ : ST), KYA s σ → PF st1 (KYA s) (r_X0_fitsWithin x1 x2 x3 σ))  : ∀ (n : Nat) (x1 : Int32) (x2 : Int32) (x3 : Int32) (x4 : Int32) (σ : ST), KYA s σ → PF st1 (KYA s) (f_X0_fitsWithin_48 r_X0_chosenWithin r_X0_fitsWithin n x1 x2 x3 x4 σ) := by
  intro n
  induction n with
  | zero => intro x1 x2 x3 x4 σ h; rw [f_X0_fitsWithin_48]; exact PF.none
  | succ n ih =>
    intro x1 x2 x3 x4 σ h
    rw [f_X0_fitsWithin_48]
    exact (PF.ite (fun _ => (PF.ret1 h)) (fun _ => (PF.ite (fun _ => (PF.ret1 h)) (fun _ => (PF.bnd (h_r_X0_fitsWithin _ _ _ _ h) (fun q1 hq1 => (PF.ite (fun _ => (PF.bnd (wy_X5_branchAfter  hq1) (fun q3 hq3 => (ih _ _ _ _ _ hq3)))) (fun _ => (PF.ret1 hq1)))))))))
theorem wy_X0_plainFits_41 {s : ST}  {σ : ST}   (h : KYA s σ) : PF st1 (KYA s) (f_X0_plainFits_41 σ) := by
  unfold f_X0_plainFits_41
  exact (PF.ret1 h)
theorem wy_X0_plainFits_31 {s : ST} {x0 : Int32} {x1 : Int32} {σ : ST}   (h : KYA s σ) : PF st1 (KYA s) (f_X0_plainFits_31 x0 x1 σ) := by
  unfold f_X0_plainFits_31
  exact (PF.ite (fun _ => (PF.ite (fun _ => (wy_X0_plainFits_41  h)) (fun _ => (PF.ret1 h)))) (fun _ => (PF.ret1 h)))
theorem wy_X0_plainFits {s : ST} {p0 : Int32} {p1 : Int32} {σ : ST}   (h : KYA s σ) : PF st1 (KYA s) (f_X0_plainFits p0 p1 σ) := by
  unfold f_X0_plainFits
  exact (PF.ite (fun _ => (PF.ret1 h)) (fun _ => (PF.ite (fun _ => (PF.ite (fun _ => (wy_X0_plainFits_41  h)) (fun _ => (PF.ite (fun _ => (PF.ite (fun _ => (wy_X0_plainFits_41  h)) (fun _ => (PF.ite (fun _ => (wy_X0_plainFits_41  h)) (fun _ => (wy_X0_plainFits_31  h)))))) (fun _ => (wy_X0_plainFits_31  h)))))) (fun _ => (PF.ret1 h)))))
theorem wy_X0_fitsWithin_207 {s : ST} {r_X0_chosenWithin : Int32 → Int32 → Int32 → ST → Option (Int32 × ST)} {r_X0_fitsWithin : Int32 → Int32 → Int32 → ST → Option (Int32 × ST)} {x4 : Int32} {x5 : Int32} {σ : ST} (h_r_X0_chosenWithin : ∀ (x1 : Int32) (x2 : Int32) (x3 : Int32) (σ : ST), KYA s σ → PF st1 (KYA s) (r_X0_chosenWithin x1 x2 x3 σ)) (h_r_X0_fitsWithin : ∀ (x1 : Int32) (x2 : Int32) (x3 : Int32) (σ : ST), KYA s σ → PF st1 (KYA s) (r_X0_fitsWithin x1 x2 x3 σ))  (h : KYA s σ) : PF st1 (KYA s) (f_X0_fitsWithin_207 r_X0_chosenWithin r_X0_fitsWithin x4 x5 σ) := by
  unfold f_X0_fitsWithin_207
  exact (PF.bnd (wy_X0_plainFits  h) (fun q1 hq1 => (PF.ite (fun _ => (PF.ret1 hq1)) (fun _ => PF.none))))
theorem wy_X0_fitsWithin_158 {s : ST} {r_X0_chosenWithin : Int32 → Int32 → Int32 → ST → Option (Int32 × ST)} {r_X0_fitsWithin : Int32 → Int32 → Int32 → ST → Option (Int32 × ST)} {x1 : Int32} {x2 : Int32} {x4 : Int32} {x5 : Int32} {σ : ST} (h_r_X0_chosenWithin : ∀ (x1 : Int32) (x2 : Int32) (x3 : Int32) (σ : ST), KYA s σ → PF st1 (KYA s) (r_X0_chosenWithin x1 x2 x3 σ)) (h_r_X0_fitsWithin : ∀ (x1 : Int32) (x2 : Int32) (x3 : Int32) (σ : ST), KYA s σ → PF st1 (KYA s) (r_X0_fitsWithin x1 x2 x3 σ))  (h : KYA s σ) : PF st1 (KYA s) (f_X0_fitsWithin_158 r_X0_chosenWithin r_X0_fitsWithin x1 x2 x4 x5 σ) := by
  unfold f_X0_fitsWithin_158
  exact (PF.ite (fun _ => (PF.ite (fun _ => (PF.bnd (wy_X5_innerOf  h) (fun q1 hq1 => (PF.bnd (wy_X5_innerOf  hq1) (fun q3 hq3 => (PF.bnd (wy_X0_bitOf  hq3) (fun q5 hq5 => (PF.ite (fun _ => (PF.ret1 hq5)) (fun _ => (PF.ret1 hq5)))))))))) (fun _ => (wy_X0_fitsWithin_207 h_r_X0_chosenWithin h_r_X0_fitsWithin h)))) (fun _ => (wy_X0_fitsWithin_207 h_r_X0_chosenWithin h_r_X0_fitsWithin h)))
theorem wy_X0_fitsWithin {s : ST} {r_X0_chosenWithin : Int32 → Int32 → Int32 → ST → Option (Int32 × ST)} {r_X0_fitsWithin : Int32 → Int32 → Int32 → ST → Option (Int32 × ST)} {p0 : Int32} {p1 : Int32} {p2 : Int32} {σ : ST} (h_r_X0_chosenWithin : ∀ (x1 : Int32) (x2 : Int32) (x3 : Int32) (σ : ST), KYA s σ → PF st1 (KYA s) (r_X0_chosenWithin x1 x2 x3 σ)) (h_r_X0_fitsWithin : ∀ (x1 : Int32) (x2 : Int32) (x3 : Int32) (σ : ST), KYA s σ → PF st1 (KYA s) (r_X0_fitsWithin x1 x2 x3 σ))  (h : KYA s σ) : PF st1 (KYA s) (f_X0_fitsWithin r_X0_chosenWithin r_X0_fitsWithin p0 p1 p2 σ) := by
  unfold f_X0_fitsWithin
  exact (PF.ite (fun _ => (PF.bnd (wy_X5_sortOf  h) (fun q1 hq1 => (PF.bnd (wy_X5_sortOf  hq1) (fun q3 hq3 => (PF.ite (fun _ => (PF.bnd (wy_X5_innerOf  hq3) (fun q13 hq13 => (wy_X0_fitsWithin_48 h_r_X0_chosenWithin h_r_X0_fitsWithin _ _ _ _ _ _ hq13)))) (fun _ => (PF.ite (fun _ => (PF.bnd (h_r_X0_chosenWithin _ _ _ _ hq3) (fun q11 hq11 => (PF.ite (fun _ => (PF.ret1 hq11)) (fun _ => (PF.ret1 hq11)))))) (fun _ => (PF.ite (fun _ => (PF.ite (fun _ => (PF.bnd (wy_X5_innerOf  hq3) (fun q5 hq5 => (PF.bnd (wy_X5_innerOf  hq5) (fun q7 hq7 => (PF.bnd (h_r_X0_fitsWithin _ _ _ _ hq7) (fun q9 hq9 => (PF.ite (fun _ => (PF.ret1 hq9)) (fun _ => PF.none))))))))) (fun _ => (wy_X0_fitsWithin_158 h_r_X0_chosenWithin h_r_X0_fitsWithin hq3)))) (fun _ => (wy_X0_fitsWithin_158 h_r_X0_chosenWithin h_r_X0_fitsWithin hq3)))))))))))) (fun _ => (PF.ret1 h)))
theorem wyR_X0_chosenWithin {s : ST} : ∀ n : Nat, (∀ (p0 : Int32) (p1 : Int32) (p2 : Int32) (σ : ST), KYA s σ → PF st1 (KYA s) ((R_X0_chosenWithin n).1 p0 p1 p2 σ)) ∧ (∀ (p0 : Int32) (p1 : Int32) (p2 : Int32) (σ : ST), KYA s σ → PF st1 (KYA s) ((R_X0_chosenWithin n).2 p0 p1 p2 σ)) := by
  intro n
  induction n with
  | zero => exact ⟨fun _ _ _ _ _ => PF.none, fun _ _ _ _ _ => PF.none⟩
  | succ n ih => exact ⟨fun _ _ _ _ h => wy_X0_chosenWithin (ih.1) (ih.2)  h, fun _ _ _ _ h => wy_X0_fitsWithin (ih.1) (ih.2)  h⟩
theorem wy_T_X0_fitsWithin {s : ST} {p0 : Int32} {p1 : Int32} {p2 : Int32} {σ : ST} (h : KYA s σ) : PF st1 (KYA s) (f_T_X0_fitsWithin p0 p1 p2 σ) := (wyR_X0_chosenWithin FR).2 _ _ _ _  h
theorem wy_X0_fieldsFit_2 {s : ST}    : ∀ (n : Nat) (x1 : Int32) (x2 : Int32) (x3 : Int32) (σ : ST), KYA s σ → PF st1 (KYA s) (f_X0_fieldsFit_2  n x1 x2 x3 σ) := by
  intro n
  induction n with
  | zero => intro x1 x2 x3 σ h; rw [f_X0_fieldsFit_2]; exact PF.none
  | succ n ih =>
    intro x1 x2 x3 σ h
    rw [f_X0_fieldsFit_2]
    exact (PF.bnd (wy_X5_fieldsOf  h) (fun q1 hq1 => (PF.ite (fun _ => (PF.ret1 hq1)) (fun _ => (PF.bnd (wy_X5_sourceOf  hq1) (fun q3 hq3 => (PF.ite (fun _ => (PF.bnd (wy_X5_hasElse  hq3) (fun q11 hq11 => (wy_X0_fieldsFit_68 ih hq11)))) (fun _ => (PF.bnd (wy_X5_typeOf  hq3) (fun q5 hq5 => (PF.bnd (wy_X5_typeOf  hq5) (fun q7 hq7 => (PF.bnd (wy_T_X0_fitsWithin hq7) (fun q9 hq9 => (wy_X0_fieldsFit_68 ih hq9)))))))))))))))
theorem wy_X0_fieldsFit {s : ST} {p0 : Int32} {p1 : Int32} {σ : ST}   (h : KYA s σ) : PF st1 (KYA s) (f_X0_fieldsFit p0 p1 σ) := by
  unfold f_X0_fieldsFit
  exact (wy_X0_fieldsFit_2  _ _ _ _ _ h)
theorem wy_X0_relate_121 {s : ST} {k87 : Int32 → Int32 → Int64 → Int32 → ST → Option (ST)} {k111 : Int32 → Int32 → Int64 → Int32 → Int32 → ST → Option (ST)} (h_k87 : ∀ (x1 : Int32) (x2 : Int32) (x3 : Int64) (x4 : Int32) (σ : ST), KYA s σ → PF st0 (KYA s) (k87 x1 x2 x3 x4 σ)) (h_k111 : ∀ (x1 : Int32) (x2 : Int32) (x3 : Int64) (x4 : Int32) (x5 : Int32) (σ : ST), KYA s σ → PF st0 (KYA s) (k111 x1 x2 x3 x4 x5 σ))  : ∀ (n : Nat) (x1 : Int32) (x2 : Int32) (x3 : Int64) (x4 : Int32) (x5 : Int32) (x6 : Int32) (σ : ST), KYA s σ → PF st0 (KYA s) (f_X0_relate_121 k87 k111 n x1 x2 x3 x4 x5 x6 σ) := by
  intro n
  induction n with
  | zero => intro x1 x2 x3 x4 x5 x6 σ h; rw [f_X0_relate_121]; exact PF.none
  | succ n ih =>
    intro x1 x2 x3 x4 x5 x6 σ h
    rw [f_X0_relate_121]
    exact (PF.ite (fun _ => (h_k111 _ _ _ _ _ _ h)) (fun _ => (PF.bnd (wy_X0_bitOf  h) (fun q1 hq1 => (PF.ite (fun _ => (wy_X0_relate_186 h_k87 h_k111 ih hq1)) (fun _ => (PF.bnd (wy_X0_fieldsFit  hq1) (fun q3 hq3 => (PF.ite (fun _ => (PF.bnd (wy_X0_bitOf  hq3) (fun q5 hq5 => (wy_X0_relate_186 h_k87 h_k111 ih (KYA.l (by omega) hq5))))) (fun _ => (wy_X0_relate_186 h_k87 h_k111 ih hq3)))))))))))
theorem wy_X0_relate_111 {s : ST} {k87 : Int32 → Int32 → Int64 → Int32 → ST → Option (ST)} (h_k87 : ∀ (x1 : Int32) (x2 : Int32) (x3 : Int64) (x4 : Int32) (σ : ST), KYA s σ → PF st0 (KYA s) (k87 x1 x2 x3 x4 σ))  : ∀ (n : Nat) (x1 : Int32) (x2 : Int32) (x3 : Int64) (x4 : Int32) (x5 : Int32) (σ : ST), KYA s σ → PF st0 (KYA s) (f_X0_relate_111 k87 n x1 x2 x3 x4 x5 σ) := by
  intro n
  induction n with
  | zero => intro x1 x2 x3 x4 x5 σ h; rw [f_X0_relate_111]; exact PF.none
  | succ n ih =>
    intro x1 x2 x3 x4 x5 σ h
    rw [f_X0_relate_111]
    exact (PF.ite (fun _ => (h_k87 _ _ _ _ _ h)) (fun _ => (wy_X0_relate_121 h_k87 ih _ _ _ _ _ _ _ _ h)))
theorem wy_X0_relate_87 {s : ST}    : ∀ (n : Nat) (x1 : Int32) (x2 : Int32) (x3 : Int64) (x4 : Int32) (σ : ST), KYA s σ → PF st0 (KYA s) (f_X0_relate_87  n x1 x2 x3 x4 σ) := by
  intro n
  induction n with
  | zero => intro x1 x2 x3 x4 σ h; rw [f_X0_relate_87]; exact PF.none
  | succ n ih =>
    intro x1 x2 x3 x4 σ h
    rw [f_X0_relate_87]
    exact (PF.ite (fun _ => (PF.ret0 h)) (fun _ => (PF.ite (fun _ => (PF.ret0 h)) (fun _ => (wy_X0_relate_111 ih _ _ _ _ _ _ _ h)))))
theorem wy_X0_mayPair_38 {s : ST}  {σ : ST}   (h : KYA s σ) : PF st1 (KYA s) (f_X0_mayPair_38 σ) := by
  unfold f_X0_mayPair_38
  exact (PF.ret1 h)
theorem wy_X0_mayPair_18 {s : ST} {x1 : Int32} {x2 : Int32} {σ : ST}   (h : KYA s σ) : PF st1 (KYA s) (f_X0_mayPair_18 x1 x2 σ) := by
  unfold f_X0_mayPair_18
  exact (PF.bnd (wy_X5_recordName  h) (fun q1 hq1 => (PF.bnd (wy_X5_recordName  hq1) (fun q3 hq3 => (PF.ite (fun _ => (wy_X0_mayPair_38  hq3)) (fun _ => (PF.ret1 hq3)))))))
theorem wy_X0_mayPair {s : ST} {p0 : Int32} {p1 : Int32} {σ : ST}   (h : KYA s σ) : PF st1 (KYA s) (f_X0_mayPair p0 p1 σ) := by
  unfold f_X0_mayPair
  exact (PF.bnd (wy_J9_floorMod_7cf53  h) (fun q1 hq1 => (PF.ite (fun _ => (PF.bnd (wy_J9_floorMod_7cf53  hq1) (fun q3 hq3 => (PF.ite (fun _ => (wy_X0_mayPair_38  hq3)) (fun _ => (wy_X0_mayPair_18  hq3)))))) (fun _ => (wy_X0_mayPair_18  hq1)))))
theorem wy_X0_relate_70 {s : ST} {k7 : Int32 → Int32 → Int32 → ST → Option (ST)} {k22 : Int32 → Int32 → Int32 → Int32 → ST → Option (ST)} {x1 : Int32} {x2 : Int32} {x3 : Int32} {x4 : Int32} {σ : ST} (h_k7 : ∀ (x1 : Int32) (x2 : Int32) (x3 : Int32) (σ : ST), KYA s σ → PF st0 (KYA s) (k7 x1 x2 x3 σ)) (h_k22 : ∀ (x1 : Int32) (x2 : Int32) (x3 : Int32) (x4 : Int32) (σ : ST), KYA s σ → PF st0 (KYA s) (k22 x1 x2 x3 x4 σ))  (h : KYA s σ) : PF st0 (KYA s) (f_X0_relate_70 k7 k22 x1 x2 x3 x4 σ) := by
  unfold f_X0_relate_70
  exact (h_k22 _ _ _ _ _ h)
theorem wy_X0_relate_22 {s : ST} {k7 : Int32 → Int32 → Int32 → ST → Option (ST)} (h_k7 : ∀ (x1 : Int32) (x2 : Int32) (x3 : Int32) (σ : ST), KYA s σ → PF st0 (KYA s) (k7 x1 x2 x3 σ))  : ∀ (n : Nat) (x1 : Int32) (x2 : Int32) (x3 : Int32) (x4 : Int32) (σ : ST), KYA s σ → PF st0 (KYA s) (f_X0_relate_22 k7 n x1 x2 x3 x4 σ) := by
  intro n
  induction n with
  | zero => intro x1 x2 x3 x4 σ h; rw [f_X0_relate_22]; exact PF.none
  | succ n ih =>
    intro x1 x2 x3 x4 σ h
    rw [f_X0_relate_22]
    exact (PF.bnd (wy_X5_recordsOf  h) (fun q1 hq1 => (PF.ite (fun _ => (h_k7 _ _ _ _ hq1)) (fun _ => (PF.bnd (wy_X0_mayPair  hq1) (fun q3 hq3 => (PF.ite (fun _ => (wy_X0_relate_70 h_k7 ih hq3)) (fun _ => (PF.bnd (wy_X0_bitOf  hq3) (fun q5 hq5 => (wy_X0_relate_70 h_k7 ih (KYA.l (by omega) hq5))))))))))))
theorem wy_X0_relate_7 {s : ST}    : ∀ (n : Nat) (x1 : Int32) (x2 : Int32) (x3 : Int32) (σ : ST), KYA s σ → PF st0 (KYA s) (f_X0_relate_7  n x1 x2 x3 σ) := by
  intro n
  induction n with
  | zero => intro x1 x2 x3 σ h; rw [f_X0_relate_7]; exact PF.none
  | succ n ih =>
    intro x1 x2 x3 σ h
    rw [f_X0_relate_7]
    exact (PF.bnd (wy_X5_recordsOf  h) (fun q1 hq1 => (PF.ite (fun _ => (wy_X0_relate_87  _ _ _ _ _ _ hq1)) (fun _ => (wy_X0_relate_22 ih _ _ _ _ _ _ hq1)))))
theorem wy_X0_relate {s : ST} {p0 : Int32} {p1 : Int32} {σ : ST}   (h : KYA s σ) : PF st0 (KYA s) (f_X0_relate p0 p1 σ) := by
  unfold f_X0_relate
  exact (wy_X0_relate_7  _ _ _ _ _ (KYA.l (by omega) h))
theorem wy_X0_turnTo_47 {s : ST} {x3 : Int32} {σ : ST}   (h : KYA s σ) : PF st0 (KYA s) (f_X0_turnTo_47 x3 σ) := by
  unfold f_X0_turnTo_47
  exact (PF.ite (fun _ => (PF.ret0 (KYA.l (by omega) h))) (fun _ => PF.none))
theorem wy_X0_turnTo {s : ST} {p0 : Int32} {p1 : Int32} {σ : ST}   (h : KYA s σ) : PF st0 (KYA s) (f_X0_turnTo p0 p1 σ) := by
  unfold f_X0_turnTo
  exact (PF.bnd (wy_X0_pairOf  h) (fun q1 hq1 => (PF.ite (fun _ => (PF.bnd (wy_X0_relate  hq1) (fun q3 hq3 => (PF.ite (fun _ => (PF.bnd (PF.ret0 (KYA.l (by omega) (KYA.l (by omega) hq3))) (fun z6 hz6 => (wy_X0_turnTo_47  hz6)))) (fun _ => PF.none))))) (fun _ => (wy_X0_turnTo_47  hq1)))))
theorem wy_X5_rootType {s : ST} {b : Nat} {p0 : Int32} {σ : ST}   (h : KYA s σ) : PF st1 (KYA s) (f_X5_rootType b p0 σ) := by
  unfold f_X5_rootType
  exact (PF.ite (fun _ => (PF.ret1 h)) (fun _ => (PF.ite (fun _ => (PF.ret1 h)) (fun _ => (PF.ite (fun _ => (PF.ret1 h)) (fun _ => PF.none))))))
theorem wy_T_X0_chosenWithin {s : ST} {p0 : Int32} {p1 : Int32} {p2 : Int32} {σ : ST} (h : KYA s σ) : PF st1 (KYA s) (f_T_X0_chosenWithin p0 p1 p2 σ) := (wyR_X0_chosenWithin FR).1 _ _ _ _  h
theorem wy_X0_chosen {s : ST} {p0 : Int32} {p1 : Int32} {σ : ST}   (h : KYA s σ) : PF st1 (KYA s) (f_X0_chosen p0 p1 σ) := by
  unfold f_X0_chosen
  exact (PF.bnd (wy_T_X0_chosenWithin h) (fun q1 hq1 => (PF.ret1 hq1)))
theorem wy_X0_addMiss {s : ST} {p0 : Int32} {σ : ST}   (h : KYA s σ) : PF st0 (KYA s) (f_X0_addMiss p0 σ) := by
  unfold f_X0_addMiss
  exact (PF.ite (fun _ => (PF.ret0 h)) (fun _ => (PF.ite (fun _ => (PF.ret0 h)) (fun _ => (PF.ite (fun _ => (PF.ret0 h)) (fun _ => (PF.ite (fun _ => (PF.ite (fun _ => (PF.ite (fun _ => (PF.bnd (PF.ret0 (KYA.i (by omega) (KYA.i (by omega) h))) (fun z3 hz3 => (PF.ite (fun _ => (PF.bnd (PF.ret0 (KYA.f (by omega) hz3)) (fun z4 hz4 => (PF.ret0 (KYA.i (by omega) hz4))))) (fun _ => PF.none))))) (fun _ => PF.none))) (fun _ => PF.none))) (fun _ => (PF.ret0 h)))))))))
theorem wy_X0_step_26 {s : ST}  {σ : ST}   (h : KYA s σ) : PF st0 (KYA s) (f_X0_step_26 σ) := by
  unfold f_X0_step_26
  exact (PF.ret0 (KYA.i (by omega) h))
theorem wy_X0_step {s : ST} {p0 : Int32} {σ : ST}   (h : KYA s σ) : PF st0 (KYA s) (f_X0_step p0 σ) := by
  unfold f_X0_step
  exact (PF.ite (fun _ => (wy_X0_step_26  h)) (fun _ => (PF.ite (fun _ => (wy_X0_step_26  h)) (fun _ => (PF.ite (fun _ => (wy_X0_step_26  (KYA.i (by omega) h))) (fun _ => PF.none))))))
theorem wy_X0_fits {s : ST} {p0 : Int32} {p1 : Int32} {σ : ST}   (h : KYA s σ) : PF st1 (KYA s) (f_X0_fits p0 p1 σ) := by
  unfold f_X0_fits
  exact (PF.bnd (wy_T_X0_fitsWithin h) (fun q1 hq1 => (PF.ite (fun _ => (PF.ret1 hq1)) (fun _ => PF.none))))
theorem wy_X0_walk_190 {s : ST} {r_X0_walk : Int32 → Int32 → Int32 → ST → Option (ST)} {r_X0_walkBranches : Int32 → Int32 → Int32 → ST → Option (ST)} {r_X0_walkFields : Int32 → Int32 → Int32 → ST → Option (ST)} {x1 : Int32} {x5 : Int32} {σ : ST} (h_r_X0_walk : ∀ (x1 : Int32) (x2 : Int32) (x3 : Int32) (σ : ST), KYA s σ → PF st0 (KYA s) (r_X0_walk x1 x2 x3 σ)) (h_r_X0_walkBranches : ∀ (x1 : Int32) (x2 : Int32) (x3 : Int32) (σ : ST), KYA s σ → PF st0 (KYA s) (r_X0_walkBranches x1 x2 x3 σ)) (h_r_X0_walkFields : ∀ (x1 : Int32) (x2 : Int32) (x3 : Int32) (σ : ST), KYA s σ → PF st0 (KYA s) (r_X0_walkFields x1 x2 x3 σ))  (h : KYA s σ) : PF st0 (KYA s) (f_X0_walk_190 r_X0_walk r_X0_walkBranches r_X0_walkFields x1 x5 σ) := by
  unfold f_X0_walk_190
  exact (PF.bnd (wy_X0_fits  h) (fun q1 hq1 => (PF.ite (fun _ => (PF.bnd (wy_X0_addMiss  hq1) (fun q3 hq3 => (PF.ret0 hq3)))) (fun _ => (PF.ret0 hq1)))))
theorem wy_X0_walk_146 {s : ST} {r_X0_walk : Int32 → Int32 → Int32 → ST → Option (ST)} {r_X0_walkBranches : Int32 → Int32 → Int32 → ST → Option (ST)} {r_X0_walkFields : Int32 → Int32 → Int32 → ST → Option (ST)} {x1 : Int32} {x3 : Int32} {x4 : Int32} {x5 : Int32} {x6 : Int32} {x7 : Int32} {x8 : Int32} {σ : ST} (h_r_X0_walk : ∀ (x1 : Int32) (x2 : Int32) (x3 : Int32) (σ : ST), KYA s σ → PF st0 (KYA s) (r_X0_walk x1 x2 x3 σ)) (h_r_X0_walkBranches : ∀ (x1 : Int32) (x2 : Int32) (x3 : Int32) (σ : ST), KYA s σ → PF st0 (KYA s) (r_X0_walkBranches x1 x2 x3 σ)) (h_r_X0_walkFields : ∀ (x1 : Int32) (x2 : Int32) (x3 : Int32) (σ : ST), KYA s σ → PF st0 (KYA s) (r_X0_walkFields x1 x2 x3 σ))  (h : KYA s σ) : PF st0 (KYA s) (f_X0_walk_146 r_X0_walk r_X0_walkBranches r_X0_walkFields x1 x3 x4 x5 x6 x7 x8 σ) := by
  unfold f_X0_walk_146
  exact (PF.ite (fun _ => (PF.ite (fun _ => (PF.bnd (wy_X0_step  h) (fun q1 hq1 => (PF.bnd (h_r_X0_walk _ _ _ _ hq1) (fun q3 hq3 => (PF.ret0 (KYA.i (by omega) hq3))))))) (fun _ => (wy_X0_walk_190 h_r_X0_walk h_r_X0_walkBranches h_r_X0_walkFields h)))) (fun _ => (wy_X0_walk_190 h_r_X0_walk h_r_X0_walkBranches h_r_X0_walkFields h)))
theorem wy_X0_walk_77 {s : ST} {r_X0_walk : Int32 → Int32 → Int32 → ST → Option (ST)} {r_X0_walkBranches : Int32 → Int32 → Int32 → ST → Option (ST)} {r_X0_walkFields : Int32 → Int32 → Int32 → ST → Option (ST)} {x1 : Int32} {x3 : Int32} {x4 : Int32} {x5 : Int32} {σ : ST} (h_r_X0_walk : ∀ (x1 : Int32) (x2 : Int32) (x3 : Int32) (σ : ST), KYA s σ → PF st0 (KYA s) (r_X0_walk x1 x2 x3 σ)) (h_r_X0_walkBranches : ∀ (x1 : Int32) (x2 : Int32) (x3 : Int32) (σ : ST), KYA s σ → PF st0 (KYA s) (r_X0_walkBranches x1 x2 x3 σ)) (h_r_X0_walkFields : ∀ (x1 : Int32) (x2 : Int32) (x3 : Int32) (σ : ST), KYA s σ → PF st0 (KYA s) (r_X0_walkFields x1 x2 x3 σ))  (h : KYA s σ) : PF st0 (KYA s) (f_X0_walk_77 r_X0_walk r_X0_walkBranches r_X0_walkFields x1 x3 x4 x5 σ) := by
  unfold f_X0_walk_77
  exact (PF.bnd (wy_X5_sortOf  h) (fun q1 hq1 => (PF.bnd (wy_X5_innerOf  hq1) (fun q3 hq3 => (PF.bnd (wy_X5_innerOf  hq3) (fun q5 hq5 => (PF.ite (fun _ => (PF.ite (fun _ => (PF.bnd (wy_X0_mayPair  hq5) (fun q7 hq7 => (PF.ite (fun _ => (wy_X0_walk_146 h_r_X0_walk h_r_X0_walkBranches h_r_X0_walkFields hq7)) (fun _ => (PF.bnd (h_r_X0_walkFields _ _ _ _ hq7) (fun q9 hq9 => (PF.ret0 hq9)))))))) (fun _ => (wy_X0_walk_146 h_r_X0_walk h_r_X0_walkBranches h_r_X0_walkFields hq5)))) (fun _ => (wy_X0_walk_146 h_r_X0_walk h_r_X0_walkBranches h_r_X0_walkFields hq5)))))))))
theorem wy_X0_walk {s : ST} {r_X0_walk : Int32 → Int32 → Int32 → ST → Option (ST)} {r_X0_walkBranches : Int32 → Int32 → Int32 → ST → Option (ST)} {r_X0_walkFields : Int32 → Int32 → Int32 → ST → Option (ST)} {p0 : Int32} {p1 : Int32} {p2 : Int32} {σ : ST} (h_r_X0_walk : ∀ (x1 : Int32) (x2 : Int32) (x3 : Int32) (σ : ST), KYA s σ → PF st0 (KYA s) (r_X0_walk x1 x2 x3 σ)) (h_r_X0_walkBranches : ∀ (x1 : Int32) (x2 : Int32) (x3 : Int32) (σ : ST), KYA s σ → PF st0 (KYA s) (r_X0_walkBranches x1 x2 x3 σ)) (h_r_X0_walkFields : ∀ (x1 : Int32) (x2 : Int32) (x3 : Int32) (σ : ST), KYA s σ → PF st0 (KYA s) (r_X0_walkFields x1 x2 x3 σ))  (h : KYA s σ) : PF st0 (KYA s) (f_X0_walk r_X0_walk r_X0_walkBranches r_X0_walkFields p0 p1 p2 σ) := by
  unfold f_X0_walk
  exact (PF.ite (fun _ => (PF.ret0 h)) (fun _ => (PF.ite (fun _ => (PF.bnd (wy_X5_sortOf  h) (fun q1 hq1 => (PF.ite (fun _ => (PF.bnd (h_r_X0_walkBranches _ _ _ _ hq1) (fun q9 hq9 => (PF.ret0 hq9)))) (fun _ => (PF.bnd (wy_X5_sortOf  hq1) (fun q3 hq3 => (PF.ite (fun _ => (PF.bnd (wy_X0_chosen  hq3) (fun q5 hq5 => (PF.ite (fun _ => (PF.bnd (wy_X0_addMiss  hq5) (fun q7 hq7 => (PF.ret0 hq7)))) (fun _ => (wy_X0_walk_77 h_r_X0_walk h_r_X0_walkBranches h_r_X0_walkFields hq5)))))) (fun _ => (wy_X0_walk_77 h_r_X0_walk h_r_X0_walkBranches h_r_X0_walkFields hq3)))))))))) (fun _ => (PF.ret0 h)))))
theorem wy_X0_walkBranches_63 {s : ST} {r_X0_walk : Int32 → Int32 → Int32 → ST → Option (ST)} {r_X0_walkBranches : Int32 → Int32 → Int32 → ST → Option (ST)} {r_X0_walkFields : Int32 → Int32 → Int32 → ST → Option (ST)} {k13 : Int32 → Int32 → Int32 → Int32 → ST → Option (ST)} {x2 : Int32} {x3 : Int32} {x4 : Int32} {x5 : Int32} {σ : ST} (h_r_X0_walk : ∀ (x1 : Int32) (x2 : Int32) (x3 : Int32) (σ : ST), KYA s σ → PF st0 (KYA s) (r_X0_walk x1 x2 x3 σ)) (h_r_X0_walkBranches : ∀ (x1 : Int32) (x2 : Int32) (x3 : Int32) (σ : ST), KYA s σ → PF st0 (KYA s) (r_X0_walkBranches x1 x2 x3 σ)) (h_r_X0_walkFields : ∀ (x1 : Int32) (x2 : Int32) (x3 : Int32) (σ : ST), KYA s σ → PF st0 (KYA s) (r_X0_walkFields x1 x2 x3 σ)) (h_k13 : ∀ (x1 : Int32) (x2 : Int32) (x3 : Int32) (x4 : Int32) (σ : ST), KYA s σ → PF st0 (KYA s) (k13 x1 x2 x3 x4 σ))  (h : KYA s σ) : PF st0 (KYA s) (f_X0_walkBranches_63 r_X0_walk r_X0_walkBranches r_X0_walkFields k13 x2 x3 x4 x5 σ) := by
  unfold f_X0_walkBranches_63
  exact (PF.bnd (wy_X5_branchAfter  (KYA.i (by omega) h)) (fun q1 hq1 => (h_k13 _ _ _ _ _ hq1)))
theorem wy_X0_walkBranches_13 {s : ST} {r_X0_walk : Int32 → Int32 → Int32 → ST → Option (ST)} {r_X0_walkBranches : Int32 → Int32 → Int32 → ST → Option (ST)} {r_X0_walkFields : Int32 → Int32 → Int32 → ST → Option (ST)} (h_r_X0_walk : ∀ (x1 : Int32) (x2 : Int32) (x3 : Int32) (σ : ST), KYA s σ → PF st0 (KYA s) (r_X0_walk x1 x2 x3 σ)) (h_r_X0_walkBranches : ∀ (x1 : Int32) (x2 : Int32) (x3 : Int32) (σ : ST), KYA s σ → PF st0 (KYA s) (r_X0_walkBranches x1 x2 x3 σ)) (h_r_X0_walkFields : ∀ (x1 : Int32) (x2 : Int32) (x3 : Int32) (σ : ST), KYA s σ → PF st0 (KYA s) (r_X0_walkFields x1 x2 x3 σ))  : ∀ (n : Nat) (x1 : Int32) (x2 : Int32) (x3 : Int32) (x4 : Int32) (σ : ST), KYA s σ → PF st0 (KYA s) (f_X0_walkBranches_13 r_X0_walk r_X0_walkBranches r_X0_walkFields n x1 x2 x3 x4 σ) := by
  intro n
  induction n with
  | zero => intro x1 x2 x3 x4 σ h; rw [f_X0_walkBranches_13]; exact PF.none
  | succ n ih =>
    intro x1 x2 x3 x4 σ h
    rw [f_X0_walkBranches_13]
    exact (PF.ite (fun _ => (PF.ret0 h)) (fun _ => (PF.ite (fun _ => (PF.ret0 h)) (fun _ => (PF.bnd (wy_X0_step  h) (fun q1 hq1 => (PF.bnd (wy_X0_fits  hq1) (fun q3 hq3 => (PF.ite (fun _ => (PF.bnd (wy_X0_addMiss  hq3) (fun q5 hq5 => (wy_X0_walkBranches_63 h_r_X0_walk h_r_X0_walkBranches h_r_X0_walkFields ih hq5)))) (fun _ => (PF.bnd (h_r_X0_walk _ _ _ _ hq3) (fun q7 hq7 => (wy_X0_walkBranches_63 h_r_X0_walk h_r_X0_walkBranches h_r_X0_walkFields ih hq7)))))))))))))
theorem wy_X0_walkBranches {s : ST} {r_X0_walk : Int32 → Int32 → Int32 → ST → Option (ST)} {r_X0_walkBranches : Int32 → Int32 → Int32 → ST → Option (ST)} {r_X0_walkFields : Int32 → Int32 → Int32 → ST → Option (ST)} {p0 : Int32} {p1 : Int32} {p2 : Int32} {σ : ST} (h_r_X0_walk : ∀ (x1 : Int32) (x2 : Int32) (x3 : Int32) (σ : ST), KYA s σ → PF st0 (KYA s) (r_X0_walk x1 x2 x3 σ)) (h_r_X0_walkBranches : ∀ (x1 : Int32) (x2 : Int32) (x3 : Int32) (σ : ST), KYA s σ → PF st0 (KYA s) (r_X0_walkBranches x1 x2 x3 σ)) (h_r_X0_walkFields : ∀ (x1 : Int32) (x2 : Int32) (x3 : Int32) (σ : ST), KYA s σ → PF st0 (KYA s) (r_X0_walkFields x1 x2 x3 σ))  (h : KYA s σ) : PF st0 (KYA s) (f_X0_walkBranches r_X0_walk r_X0_walkBranches r_X0_walkFields p0 p1 p2 σ) := by
  unfold f_X0_walkBranches
  exact (PF.bnd (wy_X5_innerOf  h) (fun q1 hq1 => (wy_X0_walkBranches_13 h_r_X0_walk h_r_X0_walkBranches h_r_X0_walkFields _ _ _ _ _ _ hq1)))
theorem wy_X0_walkFields_119 {s : ST} {r_X0_walk : Int32 → Int32 → Int32 → ST → Option (ST)} {r_X0_walkBranches : Int32 → Int32 → Int32 → ST → Option (ST)} {r_X0_walkFields : Int32 → Int32 → Int32 → ST → Option (ST)} {k33 : Int32 → Int32 → Int32 → Int32 → ST → Option (ST)} {x1 : Int32} {x2 : Int32} {x3 : Int32} {x4 : Int32} {σ : ST} (h_r_X0_walk : ∀ (x1 : Int32) (x2 : Int32) (x3 : Int32) (σ : ST), KYA s σ → PF st0 (KYA s) (r_X0_walk x1 x2 x3 σ)) (h_r_X0_walkBranches : ∀ (x1 : Int32) (x2 : Int32) (x3 : Int32) (σ : ST), KYA s σ → PF st0 (KYA s) (r_X0_walkBranches x1 x2 x3 σ)) (h_r_X0_walkFields : ∀ (x1 : Int32) (x2 : Int32) (x3 : Int32) (σ : ST), KYA s σ → PF st0 (KYA s) (r_X0_walkFields x1 x2 x3 σ)) (h_k33 : ∀ (x1 : Int32) (x2 : Int32) (x3 : Int32) (x4 : Int32) (σ : ST), KYA s σ → PF st0 (KYA s) (k33 x1 x2 x3 x4 σ))  (h : KYA s σ) : PF st0 (KYA s) (f_X0_walkFields_119 r_X0_walk r_X0_walkBranches r_X0_walkFields k33 x1 x2 x3 x4 σ) := by
  unfold f_X0_walkFields_119
  exact (h_k33 _ _ _ _ _ (KYA.i (by omega) h))
theorem wy_X0_walkFields_33 {s : ST} {r_X0_walk : Int32 → Int32 → Int32 → ST → Option (ST)} {r_X0_walkBranches : Int32 → Int32 → Int32 → ST → Option (ST)} {r_X0_walkFields : Int32 → Int32 → Int32 → ST → Option (ST)} (h_r_X0_walk : ∀ (x1 : Int32) (x2 : Int32) (x3 : Int32) (σ : ST), KYA s σ → PF st0 (KYA s) (r_X0_walk x1 x2 x3 σ)) (h_r_X0_walkBranches : ∀ (x1 : Int32) (x2 : Int32) (x3 : Int32) (σ : ST), KYA s σ → PF st0 (KYA s) (r_X0_walkBranches x1 x2 x3 σ)) (h_r_X0_walkFields : ∀ (x1 : Int32) (x2 : Int32) (x3 : Int32) (σ : ST), KYA s σ → PF st0 (KYA s) (r_X0_walkFields x1 x2 x3 σ))  : ∀ (n : Nat) (x1 : Int32) (x2 : Int32) (x3 : Int32) (x4 : Int32) (σ : ST), KYA s σ → PF st0 (KYA s) (f_X0_walkFields_33 r_X0_walk r_X0_walkBranches r_X0_walkFields n x1 x2 x3 x4 σ) := by
  intro n
  induction n with
  | zero => intro x1 x2 x3 x4 σ h; rw [f_X0_walkFields_33]; exact PF.none
  | succ n ih =>
    intro x1 x2 x3 x4 σ h
    rw [f_X0_walkFields_33]
    exact (PF.bnd (wy_X5_fieldsOf  h) (fun q1 hq1 => (PF.ite (fun _ => (PF.ret0 hq1)) (fun _ => (PF.bnd (wy_X0_step  hq1) (fun q3 hq3 => (PF.bnd (wy_X5_sourceOf  hq3) (fun q5 hq5 => (PF.ite (fun _ => (PF.bnd (wy_X5_hasElse  hq5) (fun q7 hq7 => (PF.ite (fun _ => (PF.bnd (wy_X0_addMiss  hq7) (fun q9 hq9 => (wy_X0_walkFields_119 h_r_X0_walk h_r_X0_walkBranches h_r_X0_walkFields ih hq9)))) (fun _ => (wy_X0_walkFields_119 h_r_X0_walk h_r_X0_walkBranches h_r_X0_walkFields ih hq7)))))) (fun _ => (PF.bnd (wy_X5_typeOf  hq5) (fun q11 hq11 => (PF.bnd (wy_X5_typeOf  hq11) (fun q13 hq13 => (PF.bnd (h_r_X0_walk _ _ _ _ hq13) (fun q15 hq15 => (wy_X0_walkFields_119 h_r_X0_walk h_r_X0_walkBranches h_r_X0_walkFields ih hq15)))))))))))))))))
theorem wy_X0_walkFields {s : ST} {r_X0_walk : Int32 → Int32 → Int32 → ST → Option (ST)} {r_X0_walkBranches : Int32 → Int32 → Int32 → ST → Option (ST)} {r_X0_walkFields : Int32 → Int32 → Int32 → ST → Option (ST)} {p0 : Int32} {p1 : Int32} {p2 : Int32} {σ : ST} (h_r_X0_walk : ∀ (x1 : Int32) (x2 : Int32) (x3 : Int32) (σ : ST), KYA s σ → PF st0 (KYA s) (r_X0_walk x1 x2 x3 σ)) (h_r_X0_walkBranches : ∀ (x1 : Int32) (x2 : Int32) (x3 : Int32) (σ : ST), KYA s σ → PF st0 (KYA s) (r_X0_walkBranches x1 x2 x3 σ)) (h_r_X0_walkFields : ∀ (x1 : Int32) (x2 : Int32) (x3 : Int32) (σ : ST), KYA s σ → PF st0 (KYA s) (r_X0_walkFields x1 x2 x3 σ))  (h : KYA s σ) : PF st0 (KYA s) (f_X0_walkFields r_X0_walk r_X0_walkBranches r_X0_walkFields p0 p1 p2 σ) := by
  unfold f_X0_walkFields
  exact (PF.bnd (wy_X0_bitOf  h) (fun q1 hq1 => (PF.ite (fun _ => (PF.bnd (wy_X0_bitOf  hq1) (fun q3 hq3 => (wy_X0_walkFields_33 h_r_X0_walk h_r_X0_walkBranches h_r_X0_walkFields _ _ _ _ _ _ (KYA.l (by omega) hq3))))) (fun _ => (PF.ret0 hq1)))))
theorem wyR_X0_walk {s : ST} : ∀ n : Nat, (∀ (p0 : Int32) (p1 : Int32) (p2 : Int32) (σ : ST), KYA s σ → PF st0 (KYA s) ((R_X0_walk n).1 p0 p1 p2 σ)) ∧ (∀ (p0 : Int32) (p1 : Int32) (p2 : Int32) (σ : ST), KYA s σ → PF st0 (KYA s) ((R_X0_walk n).2.1 p0 p1 p2 σ)) ∧ (∀ (p0 : Int32) (p1 : Int32) (p2 : Int32) (σ : ST), KYA s σ → PF st0 (KYA s) ((R_X0_walk n).2.2 p0 p1 p2 σ)) := by
  intro n
  induction n with
  | zero => exact ⟨fun _ _ _ _ _ => PF.none, fun _ _ _ _ _ => PF.none, fun _ _ _ _ _ => PF.none⟩
  | succ n ih => exact ⟨fun _ _ _ _ h => wy_X0_walk (ih.1) (ih.2.1) (ih.2.2)  h, fun _ _ _ _ h => wy_X0_walkBranches (ih.1) (ih.2.1) (ih.2.2)  h, fun _ _ _ _ h => wy_X0_walkFields (ih.1) (ih.2.1) (ih.2.2)  h⟩
theorem wy_T_X0_walk {s : ST} {p0 : Int32} {p1 : Int32} {p2 : Int32} {σ : ST} (h : KYA s σ) : PF st0 (KYA s) (f_T_X0_walk p0 p1 p2 σ) := (wyR_X0_walk FR).1 _ _ _ _  h
theorem wy_X0_collectMisses {s : ST} {p0 : Int32} {p1 : Int32} {σ : ST}   (h : KYA s σ) : PF st0 (KYA s) (f_X0_collectMisses p0 p1 σ) := by
  unfold f_X0_collectMisses
  exact (PF.bnd (wy_X0_pairOf  h) (fun q1 hq1 => (PF.ite (fun _ => (PF.ret0 hq1)) (fun _ => (PF.bnd (wy_X5_rootType  (KYA.l (by omega) (KYA.i (by omega) (KYA.i (by omega) (KYA.i (by omega) hq1))))) (fun q3 hq3 => (PF.bnd (wy_X5_rootType  hq3) (fun q5 hq5 => (PF.bnd (wy_T_X0_walk hq5) (fun q7 hq7 => (PF.ret0 hq7)))))))))))
theorem wy_X0_rootsFit {s : ST}  {σ : ST}   (h : KYA s σ) : PF st1 (KYA s) (f_X0_rootsFit σ) := by
  unfold f_X0_rootsFit
  exact (PF.bnd (wy_X0_bitOf  h) (fun q1 hq1 => (PF.ite (fun _ => (PF.ret1 hq1)) (fun _ => (PF.ret1 hq1)))))
theorem wy_X0_verdict_61 {s : ST} {x3 : Int32} {σ : ST}   (h : KYA s σ) : PF st1 (KYA s) (f_X0_verdict_61 x3 σ) := by
  unfold f_X0_verdict_61
  exact (PF.ite (fun _ => (PF.ret1 h)) (fun _ => PF.none))
theorem wy_X0_verdict_60 {s : ST} {x3 : Int32} {y0 : Int32} {y1 : Int32} {σ : ST}   (h : KYA s σ) : PF st1 (KYA s) (f_X0_verdict_60 x3 y0 y1 σ) := by
  unfold f_X0_verdict_60
  exact (PF.ite (fun _ => (wy_X0_verdict_61  (KYA.i (by omega) h))) (fun _ => PF.none))
theorem wy_X0_verdict_40 {s : ST} {x3 : Int32} {y0 : Int32} {σ : ST}   (h : KYA s σ) : PF st1 (KYA s) (f_X0_verdict_40 x3 y0 σ) := by
  unfold f_X0_verdict_40
  exact (PF.bnd (wy_X0_rootsFit  h) (fun q1 hq1 => (PF.ite (fun _ => (wy_X0_verdict_60  hq1)) (fun _ => (wy_X0_verdict_60  hq1)))))
theorem wy_X0_verdict {s : ST} {p0 : Int32} {p1 : Int32} {σ : ST}   (h : KYA s σ) : PF st1 (KYA s) (f_X0_verdict p0 p1 σ) := by
  unfold f_X0_verdict
  exact (PF.bnd (wy_X0_pairOf  h) (fun q1 hq1 => (PF.ite (fun _ => (PF.ite (fun _ => (PF.bnd (wy_X0_turnTo  hq1) (fun q4 hq4 => (PF.bnd (wy_X0_collectMisses  hq4) (fun q6 hq6 => (PF.ite (fun _ => (wy_X0_verdict_40  hq6)) (fun _ => (wy_X0_verdict_40  hq6)))))))) (fun _ => (wy_X0_verdict_61  hq1)))) (fun _ => PF.none))))
theorem wy_X10_matches {s : ST} {p0 : Int32} {p1 : Int32} {σ : ST}   (h : KYA s σ) : PF st1 (KYA s) (f_X10_matches p0 p1 σ) := by
  unfold f_X10_matches
  exact (PF.bnd (wy_X10_isPlan  h) (fun q1 hq1 => (PF.ite (fun _ => (PF.ret1 hq1)) (fun _ => (PF.bnd (wy_X10_isPlan  hq1) (fun q3 hq3 => (PF.ite (fun _ => (PF.ret1 hq3)) (fun _ => (PF.bnd (wy_X0_verdict  hq3) (fun q5 hq5 => (PF.ret1 hq5)))))))))))
theorem wy_X0_findMisses {s : ST} {p0 : Int32} {p1 : Int32} {σ : ST}   (h : KYA s σ) : PF st0 (KYA s) (f_X0_findMisses p0 p1 σ) := by
  unfold f_X0_findMisses
  exact (PF.bnd (wy_X0_turnTo  h) (fun q1 hq1 => (PF.bnd (wy_X0_collectMisses  hq1) (fun q3 hq3 => (PF.ret0 hq3)))))
theorem wy_X0_isMiss {s : ST} {p0 : Int32} {σ : ST}   (h : KYA s σ) : PF st1 (KYA s) (f_X0_isMiss p0 σ) := by
  unfold f_X0_isMiss
  exact (PF.ite (fun _ => (PF.ret1 h)) (fun _ => (PF.ite (fun _ => (PF.ret1 h)) (fun _ => (PF.ite (fun _ => (PF.ret1 h)) (fun _ => (PF.ret1 h)))))))
theorem wy_X0_missKind {s : ST} {p0 : Int32} {σ : ST}   (h : KYA s σ) : PF st1 (KYA s) (f_X0_missKind p0 σ) := by
  unfold f_X0_missKind
  exact (PF.bnd (wy_X0_isMiss  h) (fun q1 hq1 => (PF.ite (fun _ => (PF.ret1 hq1)) (fun _ => (PF.ite (fun _ => (PF.ret1 hq1)) (fun _ => PF.none))))))
theorem wy_X0_missSteps {s : ST} {p0 : Int32} {σ : ST}   (h : KYA s σ) : PF st1 (KYA s) (f_X0_missSteps p0 σ) := by
  unfold f_X0_missSteps
  exact (PF.bnd (wy_X0_isMiss  h) (fun q1 hq1 => (PF.ite (fun _ => (PF.ret1 hq1)) (fun _ => (PF.ite (fun _ => (PF.ret1 hq1)) (fun _ => PF.none))))))
theorem wy_X10_miss {s : ST} {p0 : Int32} {p1 : Int32} {p2 : Int32} {p3 : Int32} {σ : ST}   (h : KYA s σ) : PF st1 (KYA s) (f_X10_miss p0 p1 p2 p3 σ) := by
  unfold f_X10_miss
  exact (PF.bnd (wy_X10_isPlan  h) (fun q1 hq1 => (PF.ite (fun _ => (PF.ret1 hq1)) (fun _ => (PF.bnd (wy_X10_isPlan  hq1) (fun q3 hq3 => (PF.ite (fun _ => (PF.ret1 hq3)) (fun _ => (PF.bnd (wy_X0_findMisses  hq3) (fun q5 hq5 => (PF.ite (fun _ => (PF.ret1 hq5)) (fun _ => (PF.ite (fun _ => (PF.bnd (wy_X0_missKind  hq5) (fun q9 hq9 => (PF.ret1 hq9)))) (fun _ => (PF.ite (fun _ => (PF.bnd (wy_X0_missSteps  hq5) (fun q11 hq11 => (PF.ret1 hq11)))) (fun _ => (PF.ret1 hq5)))))))))))))))))
theorem wy_X0_stepOfMiss {s : ST} {p0 : Int32} {p1 : Int32} {σ : ST}   (h : KYA s σ) : PF st1 (KYA s) (f_X0_stepOfMiss p0 p1 σ) := by
  unfold f_X0_stepOfMiss
  exact (PF.bnd (wy_X0_isMiss  h) (fun q1 hq1 => (PF.ite (fun _ => (PF.ret1 hq1)) (fun _ => (PF.ite (fun _ => (PF.ret1 hq1)) (fun _ => (PF.ite (fun _ => (PF.ite (fun _ => (PF.ret1 hq1)) (fun _ => (PF.ite (fun _ => (PF.ret1 hq1)) (fun _ => (PF.ite (fun _ => (PF.ret1 hq1)) (fun _ => PF.none))))))) (fun _ => PF.none))))))))
theorem wy_X10_missStep {s : ST} {p0 : Int32} {p1 : Int32} {p2 : Int32} {p3 : Int32} {σ : ST}   (h : KYA s σ) : PF st1 (KYA s) (f_X10_missStep p0 p1 p2 p3 σ) := by
  unfold f_X10_missStep
  exact (PF.bnd (wy_X10_isPlan  h) (fun q1 hq1 => (PF.ite (fun _ => (PF.ret1 hq1)) (fun _ => (PF.bnd (wy_X10_isPlan  hq1) (fun q3 hq3 => (PF.ite (fun _ => (PF.ret1 hq3)) (fun _ => (PF.bnd (wy_X0_findMisses  hq3) (fun q5 hq5 => (PF.bnd (wy_X0_stepOfMiss  hq5) (fun q7 hq7 => (PF.ret1 hq7)))))))))))))
theorem wy_X10_readers_57 {s : ST} {k24 : Int32 → Int32 → Int32 → Int32 → ST → Option (Int32 × ST)} {x1 : Int32} {x2 : Int32} {x3 : Int32} {x4 : Int32} {σ : ST} (h_k24 : ∀ (x1 : Int32) (x2 : Int32) (x3 : Int32) (x4 : Int32) (σ : ST), KYA s σ → PF st1 (KYA s) (k24 x1 x2 x3 x4 σ))  (h : KYA s σ) : PF st1 (KYA s) (f_X10_readers_57 k24 x1 x2 x3 x4 σ) := by
  unfold f_X10_readers_57
  exact (h_k24 _ _ _ _ _ h)
theorem wy_X10_readers_24 {s : ST}    : ∀ (n : Nat) (x1 : Int32) (x2 : Int32) (x3 : Int32) (x4 : Int32) (σ : ST), KYA s σ → PF st1 (KYA s) (f_X10_readers_24  n x1 x2 x3 x4 σ) := by
  intro n
  induction n with
  | zero => intro x1 x2 x3 x4 σ h; rw [f_X10_readers_24]; exact PF.none
  | succ n ih =>
    intro x1 x2 x3 x4 σ h
    rw [f_X10_readers_24]
    exact (PF.ite (fun _ => (PF.ret1 h)) (fun _ => (PF.bnd (wy_X0_verdict  h) (fun q1 hq1 => (PF.ite (fun _ => (wy_X10_readers_57 ih hq1)) (fun _ => (wy_X10_readers_57 ih hq1)))))))
theorem wy_X10_readers {s : ST} {p0 : Int32} {p1 : Int32} {σ : ST}   (h : KYA s σ) : PF st1 (KYA s) (f_X10_readers p0 p1 σ) := by
  unfold f_X10_readers
  exact (PF.bnd (wy_X10_isPlan  h) (fun q1 hq1 => (PF.ite (fun _ => (PF.ret1 hq1)) (fun _ => (PF.ite (fun _ => (PF.ret1 hq1)) (fun _ => (PF.ite (fun _ => (wy_X10_readers_24  _ _ _ _ _ _ hq1)) (fun _ => (PF.ret1 hq1)))))))))
theorem wy_X10_failure {s : ST} {p0 : Int32} {σ : ST}   (h : KYA s σ) : PF st1 (KYA s) (f_X10_failure p0 σ) := by
  unfold f_X10_failure
  exact (PF.ite (fun _ => (PF.ret1 h)) (fun _ => (PF.ite (fun _ => (PF.ret1 h)) (fun _ => (PF.ite (fun _ => (PF.ret1 h)) (fun _ => (PF.ite (fun _ => (PF.ret1 h)) (fun _ => (PF.ret1 h)))))))))
theorem wy_X4_stepAt {s : ST} {b : Nat} {t : Nat} {p0 : Int32} {σ : ST}   (h : KYA s σ) : PF st1 (KYA s) (f_X4_stepAt b t p0 σ) := by
  unfold f_X4_stepAt
  exact (PF.ite (fun _ => (PF.ret1 h)) (fun _ => (PF.ite (fun _ => (PF.ret1 h)) (fun _ => (PF.ite (fun _ => (PF.ret1 h)) (fun _ => (PF.ite (fun _ => (PF.ret1 h)) (fun _ => PF.none))))))))
theorem wy_X10_failureStep {s : ST} {p0 : Int32} {σ : ST}   (h : KYA s σ) : PF st1 (KYA s) (f_X10_failureStep p0 σ) := by
  unfold f_X10_failureStep
  exact (PF.ite (fun _ => (PF.ret1 h)) (fun _ => (PF.bnd (wy_X4_stepAt  h) (fun q1 hq1 => (PF.ret1 hq1)))))
theorem wy_X7_rowAt {s : ST} {b : Nat} {p0 : Int32} {σ : ST}   (h : KYA s σ) : PF st1 (KYA s) (f_X7_rowAt b p0 σ) := by
  unfold f_X7_rowAt
  exact (PF.ite (fun _ => (PF.ret1 h)) (fun _ => (PF.ite (fun _ => (PF.ret1 h)) (fun _ => (PF.ite (fun _ => (PF.ret1 h)) (fun _ => (PF.ite (fun _ => (PF.ret1 h)) (fun _ => PF.none))))))))
theorem wy_X10_node_23 {s : ST}  {σ : ST}   (h : KYA s σ) : PF st1 (KYA s) (f_X10_node_23 σ) := by
  unfold f_X10_node_23
  exact (PF.ret1 h)
theorem wy_X7_isRow {s : ST} {b : Nat} {p0 : Int32} {σ : ST}   (h : KYA s σ) : PF st1 (KYA s) (f_X7_isRow b p0 σ) := by
  unfold f_X7_isRow
  exact (PF.ite (fun _ => (PF.ret1 h)) (fun _ => (PF.ite (fun _ => (PF.ret1 h)) (fun _ => (PF.ite (fun _ => (PF.ret1 h)) (fun _ => (PF.ret1 h)))))))
theorem wy_X7_sortAt {s : ST} {b : Nat} {p0 : Int32} {σ : ST}   (h : KYA s σ) : PF st1 (KYA s) (f_X7_sortAt b p0 σ) := by
  unfold f_X7_sortAt
  exact (PF.bnd (wy_X7_isRow  h) (fun q1 hq1 => (PF.ite (fun _ => (PF.ret1 hq1)) (fun _ => (PF.ite (fun _ => (PF.ret1 hq1)) (fun _ => PF.none))))))
theorem wy_X7_parentOf {s : ST} {b : Nat} {p0 : Int32} {σ : ST}   (h : KYA s σ) : PF st1 (KYA s) (f_X7_parentOf b p0 σ) := by
  unfold f_X7_parentOf
  exact (PF.bnd (wy_X7_isRow  h) (fun q1 hq1 => (PF.ite (fun _ => (PF.ret1 hq1)) (fun _ => (PF.ite (fun _ => (PF.ret1 hq1)) (fun _ => PF.none))))))
theorem wy_X7_numberOf {s : ST} {b : Nat} {p0 : Int32} {σ : ST}   (h : KYA s σ) : PF st1 (KYA s) (f_X7_numberOf b p0 σ) := by
  unfold f_X7_numberOf
  exact (PF.bnd (wy_X7_isRow  h) (fun q1 hq1 => (PF.ite (fun _ => (PF.ret1 hq1)) (fun _ => (PF.ite (fun _ => (PF.ret1 hq1)) (fun _ => PF.none))))))
theorem wy_X7_placeOf {s : ST} {b : Nat} {p0 : Int32} {σ : ST}   (h : KYA s σ) : PF st1 (KYA s) (f_X7_placeOf b p0 σ) := by
  unfold f_X7_placeOf
  exact (PF.bnd (wy_X7_isRow  h) (fun q1 hq1 => (PF.ite (fun _ => (PF.ret1 hq1)) (fun _ => (PF.ite (fun _ => (PF.ret1 hq1)) (fun _ => PF.none))))))
theorem wy_X7_sizeOf {s : ST} {b : Nat} {p0 : Int32} {σ : ST}   (h : KYA s σ) : PF st1 (KYA s) (f_X7_sizeOf b p0 σ) := by
  unfold f_X7_sizeOf
  exact (PF.bnd (wy_X7_isRow  h) (fun q1 hq1 => (PF.ite (fun _ => (PF.ret1 hq1)) (fun _ => (PF.ite (fun _ => (PF.ret1 hq1)) (fun _ => PF.none))))))
theorem wy_X7_isFilled {s : ST} {b : Nat} {p0 : Int32} {σ : ST}   (h : KYA s σ) : PF st1 (KYA s) (f_X7_isFilled b p0 σ) := by
  unfold f_X7_isFilled
  exact (PF.bnd (wy_X7_isRow  h) (fun q1 hq1 => (PF.ite (fun _ => (PF.ret1 hq1)) (fun _ => (PF.ite (fun _ => (PF.ite (fun _ => (PF.ret1 hq1)) (fun _ => (PF.ret1 hq1)))) (fun _ => PF.none))))))
theorem wy_X10_node {s : ST} {p0 : Int32} {p1 : Int32} {σ : ST}   (h : KYA s σ) : PF st1 (KYA s) (f_X10_node p0 p1 σ) := by
  unfold f_X10_node
  exact (PF.bnd (wy_X7_rowAt  h) (fun q1 hq1 => (PF.ite (fun _ => (wy_X10_node_23  hq1)) (fun _ => (PF.ite (fun _ => (wy_X10_node_23  hq1)) (fun _ => (PF.ite (fun _ => (PF.ite (fun _ => (PF.bnd (wy_X7_sortAt  hq1) (fun q7 hq7 => (PF.ret1 hq7)))) (fun _ => (PF.ite (fun _ => (PF.bnd (wy_X7_parentOf  hq1) (fun q9 hq9 => (PF.bnd (wy_X7_numberOf  hq9) (fun q11 hq11 => (PF.ret1 hq11)))))) (fun _ => (PF.ite (fun _ => (PF.bnd (wy_X7_placeOf  hq1) (fun q13 hq13 => (PF.ret1 hq13)))) (fun _ => (PF.ite (fun _ => (PF.bnd (wy_X7_sizeOf  hq1) (fun q15 hq15 => (PF.ret1 hq15)))) (fun _ => (PF.bnd (wy_X7_isFilled  hq1) (fun q17 hq17 => (PF.ite (fun _ => (PF.ret1 hq17)) (fun _ => (PF.ret1 hq17)))))))))))))) (fun _ => (wy_X10_node_23  hq1)))))))))
theorem wy_X7_worthOf {s : ST} {b : Nat} {p0 : Int32} {σ : ST}   (h : KYA s σ) : PF st1 (KYA s) (f_X7_worthOf b p0 σ) := by
  unfold f_X7_worthOf
  exact (PF.bnd (wy_X7_isRow  h) (fun q1 hq1 => (PF.ite (fun _ => (PF.ret1 hq1)) (fun _ => (PF.ite (fun _ => (PF.ret1 hq1)) (fun _ => PF.none))))))
theorem wy_X10_value {s : ST} {p0 : Int32} {σ : ST}   (h : KYA s σ) : PF st1 (KYA s) (f_X10_value p0 σ) := by
  unfold f_X10_value
  exact (PF.bnd (wy_X7_rowAt  h) (fun q1 hq1 => (PF.ite (fun _ => (PF.ret1 hq1)) (fun _ => (PF.bnd (wy_X7_sortAt  hq1) (fun q3 hq3 => (PF.ite (fun _ => (PF.ret1 hq3)) (fun _ => (PF.bnd (wy_X7_worthOf  hq3) (fun q5 hq5 => (PF.ret1 hq5)))))))))))
theorem wy_X10_letter_30 {s : ST}  {σ : ST}   (h : KYA s σ) : PF st1 (KYA s) (f_X10_letter_30 σ) := by
  unfold f_X10_letter_30
  exact (PF.ret1 h)
theorem wy_X10_letter {s : ST} {p0 : Int32} {p1 : Int32} {σ : ST}   (h : KYA s σ) : PF st1 (KYA s) (f_X10_letter p0 p1 σ) := by
  unfold f_X10_letter
  exact (PF.bnd (wy_X7_rowAt  h) (fun q1 hq1 => (PF.ite (fun _ => (wy_X10_letter_30  hq1)) (fun _ => (PF.bnd (wy_X7_sortAt  hq1) (fun q3 hq3 => (PF.ite (fun _ => (PF.ite (fun _ => (PF.bnd (wy_X7_sizeOf  hq3) (fun q5 hq5 => (PF.ite (fun _ => (PF.ret1 hq5)) (fun _ => (PF.bnd (wy_X7_worthOf  hq5) (fun q7 hq7 => (PF.bnd (wy_X10_letterOf  hq7) (fun q9 hq9 => (PF.ret1 hq9)))))))))) (fun _ => (wy_X10_letter_30  hq3)))) (fun _ => (wy_X10_letter_30  hq3)))))))))
theorem wy_X7_clear {s : ST} {b : Nat} {σ : ST}  (h_b : (b = 20 ∨ 62 ≤ b)) (h : KYA s σ) : PF st0 (KYA s) (f_X7_clear b σ) := by
  unfold f_X7_clear
  exact (PF.ret0 (KYA.i (by omega) h))
theorem wy_X5_emptyHeight {s : ST} {b : Nat} {p0 : Int32} {σ : ST}   (h : KYA s σ) : PF st1 (KYA s) (f_X5_emptyHeight b p0 σ) := by
  unfold f_X5_emptyHeight
  exact (PF.bnd (wy_X5_sortOf  h) (fun q1 hq1 => (PF.ite (fun _ => (PF.ret1 hq1)) (fun _ => (PF.bnd (wy_X5_innerOf  hq1) (fun q3 hq3 => (PF.bnd (wy_X5_sortOf  hq3) (fun q5 hq5 => (PF.ite (fun _ => (PF.bnd (wy_X5_isRecord  hq5) (fun q7 hq7 => (PF.ite (fun _ => (PF.ret1 hq7)) (fun _ => (PF.ite (fun _ => (PF.ret1 hq7)) (fun _ => PF.none))))))) (fun _ => (PF.ret1 hq5)))))))))))
theorem wy_X4_isEmptyThere {s : ST} {b : Nat} {t : Nat} {p0 : Int32} {p1 : Int32} {σ : ST}   (h : KYA s σ) : PF st1 (KYA s) (f_X4_isEmptyThere b t p0 p1 σ) := by
  unfold f_X4_isEmptyThere
  exact (PF.bnd (wy_X5_emptyHeight  h) (fun q1 hq1 => (PF.ite (fun _ => (PF.ret1 hq1)) (fun _ => (PF.ite (fun _ => (PF.ret1 hq1)) (fun _ => (PF.ret1 hq1)))))))
theorem wy_X4_takeNumber_70 {s : ST} {b : Nat} {t : Nat} {x2 : Int64} {σ : ST}   (h : KYA s σ) : PF st1 (KYA s) (f_X4_takeNumber_70 b t x2 σ) := by
  unfold f_X4_takeNumber_70
  exact (PF.ite (fun _ => (PF.ret1 h)) (fun _ => (PF.ret1 h)))
theorem wy_X4_fail_29 {s : ST} {b : Nat} {t : Nat} {σ : ST}  (h_b : (b = 20 ∨ 62 ≤ b)) (h : KYA s σ) : PF st0 (KYA s) (f_X4_fail_29 b t σ) := by
  unfold f_X4_fail_29
  exact (PF.ret0 (KYA.i (by omega) h))
theorem wy_X4_fail {s : ST} {b : Nat} {t : Nat} {p0 : Int32} {p1 : Int32} {σ : ST}  (h_b : (b = 20 ∨ 62 ≤ b)) (h : KYA s σ) : PF st0 (KYA s) (f_X4_fail b t p0 p1 σ) := by
  unfold f_X4_fail
  exact (PF.ite (fun _ => (PF.ite (fun _ => (wy_X4_fail_29 (by omega) (KYA.i (by omega) (KYA.i (by omega) h)))) (fun _ => (PF.ite (fun _ => (wy_X4_fail_29 (by omega) (KYA.i (by omega) (KYA.i (by omega) h)))) (fun _ => (PF.ret0 (KYA.i (by omega) (KYA.i (by omega) h)))))))) (fun _ => (PF.ret0 h)))
theorem wy_X4_takeByte {s : ST} {b : Nat} {t : Nat} {σ : ST}  (h_b : (b = 20 ∨ 62 ≤ b)) (h : KYA s σ) : PF st1 (KYA s) (f_X4_takeByte b t σ) := by
  unfold f_X4_takeByte
  exact (PF.ite (fun _ => (PF.ite (fun _ => (PF.bnd (wy_X1_byteOf  h) (fun q1 hq1 => (PF.ret1 (KYA.i (by omega) hq1))))) (fun _ => (PF.bnd (wy_X4_fail (by omega) h) (fun q3 hq3 => (PF.ret1 hq3)))))) (fun _ => (PF.ret1 h)))
theorem wy_X4_takeNumber_38 {s : ST} {k5 : Int32 → Int64 → Int32 → ST → Option (Int64 × ST)} {b : Nat} {t : Nat} {x1 : Int32} {x2 : Int64} {x4 : Int32} {x5 : Int32} {σ : ST} (h_k5 : ∀ (x1 : Int32) (x2 : Int64) (x3 : Int32) (σ : ST), KYA s σ → PF st1 (KYA s) (k5 x1 x2 x3 σ))  (h : KYA s σ) : PF st1 (KYA s) (f_X4_takeNumber_38 k5 b t x1 x2 x4 x5 σ) := by
  unfold f_X4_takeNumber_38
  exact (PF.ite (fun _ => (h_k5 _ _ _ _ h)) (fun _ => (wy_X4_takeNumber_70  h)))
theorem wy_X4_takeNumber_5 {s : ST} {b : Nat} {t : Nat}  (h_b : (b = 20 ∨ 62 ≤ b)) : ∀ (n : Nat) (x1 : Int32) (x2 : Int64) (x3 : Int32) (σ : ST), KYA s σ → PF st1 (KYA s) (f_X4_takeNumber_5 b t n x1 x2 x3 σ) := by
  intro n
  induction n with
  | zero => intro x1 x2 x3 σ h; rw [f_X4_takeNumber_5]; exact PF.none
  | succ n ih =>
    intro x1 x2 x3 σ h
    rw [f_X4_takeNumber_5]
    exact (PF.ite (fun _ => (wy_X4_takeNumber_70  h)) (fun _ => (PF.bnd (wy_X4_takeByte (by omega) h) (fun q1 hq1 => (PF.ite (fun _ => (PF.ite (fun _ => (wy_X4_takeNumber_38 ih hq1)) (fun _ => (PF.bnd (wy_X4_fail (by omega) hq1) (fun q3 hq3 => (wy_X4_takeNumber_38 ih hq3)))))) (fun _ => (wy_X4_takeNumber_38 ih hq1)))))))
theorem wy_X4_takeNumber {s : ST} {b : Nat} {t : Nat} {p0 : Int32} {σ : ST}  (h_b : (b = 20 ∨ 62 ≤ b)) (h : KYA s σ) : PF st1 (KYA s) (f_X4_takeNumber b t p0 σ) := by
  unfold f_X4_takeNumber
  exact (wy_X4_takeNumber_5 (by omega) _ _ _ _ _ h)
theorem wy_X4_takeCount_26 {s : ST} {b : Nat} {t : Nat} {x3 : Int64} {σ : ST}   (h : KYA s σ) : PF st1 (KYA s) (f_X4_takeCount_26 b t x3 σ) := by
  unfold f_X4_takeCount_26
  exact (PF.ite (fun _ => (PF.ret1 h)) (fun _ => (PF.ret1 h)))
theorem wy_X4_takeCount_19 {s : ST} {b : Nat} {t : Nat} {x1 : Int32} {x3 : Int64} {σ : ST}  (h_b : (b = 20 ∨ 62 ≤ b)) (h : KYA s σ) : PF st1 (KYA s) (f_X4_takeCount_19 b t x1 x3 σ) := by
  unfold f_X4_takeCount_19
  exact (PF.bnd (wy_X4_fail (by omega) h) (fun q1 hq1 => (wy_X4_takeCount_26  hq1)))
theorem wy_X4_takeCount {s : ST} {b : Nat} {t : Nat} {p0 : Int32} {p1 : Int32} {σ : ST}  (h_b : (b = 20 ∨ 62 ≤ b)) (h : KYA s σ) : PF st1 (KYA s) (f_X4_takeCount b t p0 p1 σ) := by
  unfold f_X4_takeCount
  exact (PF.bnd (wy_X4_takeNumber (by omega) h) (fun q1 hq1 => (PF.ite (fun _ => (wy_X4_takeCount_19 (by omega) hq1)) (fun _ => (PF.ite (fun _ => (wy_X4_takeCount_26  hq1)) (fun _ => (wy_X4_takeCount_19 (by omega) hq1)))))))
theorem wy_X5_branchOf_23 {s : ST} {b : Nat}   : ∀ (n : Nat) (x1 : Int32) (x2 : Int32) (x3 : Int32) (σ : ST), KYA s σ → PF st1 (KYA s) (f_X5_branchOf_23 b n x1 x2 x3 σ) := by
  intro n
  induction n with
  | zero => intro x1 x2 x3 σ h; rw [f_X5_branchOf_23]; exact PF.none
  | succ n ih =>
    intro x1 x2 x3 σ h
    rw [f_X5_branchOf_23]
    exact (PF.ite (fun _ => (PF.ret1 h)) (fun _ => (PF.ite (fun _ => (PF.ret1 h)) (fun _ => (PF.bnd (wy_X5_branchAfter  h) (fun q1 hq1 => (ih _ _ _ _ hq1)))))))
theorem wy_X5_branchOf_19 {s : ST} {b : Nat} {x2 : Int32} {y0 : Int32} {σ : ST}   (h : KYA s σ) : PF st1 (KYA s) (f_X5_branchOf_19 b x2 y0 σ) := by
  unfold f_X5_branchOf_19
  exact (wy_X5_branchOf_23  _ _ _ _ _ h)
theorem wy_X5_branchOf {s : ST} {b : Nat} {p0 : Int32} {p1 : Int32} {σ : ST}   (h : KYA s σ) : PF st1 (KYA s) (f_X5_branchOf b p0 p1 σ) := by
  unfold f_X5_branchOf
  exact (PF.bnd (wy_X5_sortOf  h) (fun q1 hq1 => (PF.ite (fun _ => (PF.bnd (wy_X5_innerOf  hq1) (fun q3 hq3 => (wy_X5_branchOf_19  hq3)))) (fun _ => (wy_X5_branchOf_19  hq1)))))
theorem wy_X4_step_26 {s : ST} {b : Nat} {t : Nat} {σ : ST}  (h_b : (b = 20 ∨ 62 ≤ b)) (h : KYA s σ) : PF st0 (KYA s) (f_X4_step_26 b t σ) := by
  unfold f_X4_step_26
  exact (PF.ret0 (KYA.i (by omega) h))
theorem wy_X4_step {s : ST} {b : Nat} {t : Nat} {p0 : Int32} {σ : ST}  (h_b : (b = 20 ∨ 62 ≤ b)) (h : KYA s σ) : PF st0 (KYA s) (f_X4_step b t p0 σ) := by
  unfold f_X4_step
  exact (PF.ite (fun _ => (wy_X4_step_26 (by omega) h)) (fun _ => (PF.ite (fun _ => (wy_X4_step_26 (by omega) h)) (fun _ => (PF.ite (fun _ => (wy_X4_step_26 (by omega) (KYA.i (by omega) h))) (fun _ => PF.none))))))
theorem wy_X4_stepBack {s : ST} {b : Nat} {t : Nat} {σ : ST}  (h_b : (b = 20 ∨ 62 ≤ b)) (h : KYA s σ) : PF st0 (KYA s) (f_X4_stepBack b t σ) := by
  unfold f_X4_stepBack
  exact (PF.ite (fun _ => (PF.ret0 (KYA.i (by omega) h))) (fun _ => (PF.ret0 h)))
theorem wy_X4_take_140 {s : ST} {r_X4_take : Nat → Nat → Int32 → Int32 → Int32 → Int32 → Int32 → ST → Option (ST)} {r_X4_takeField : Nat → Nat → Int32 → Int32 → Int32 → Int32 → Int32 → ST → Option (ST)} {r_X4_takeList : Nat → Nat → Int32 → Int32 → Int32 → Int32 → Int32 → ST → Option (ST)} {r_X4_takeOwn : Nat → Nat → Int32 → Int32 → Int32 → Int32 → Int32 → ST → Option (ST)} {r_X4_takeRecord : Nat → Nat → Int32 → Int32 → Int32 → Int32 → Int32 → ST → Option (ST)} {b : Nat} {t : Nat} {x2 : Int32} {x3 : Int32} {x4 : Int32} {x5 : Int32} {x8 : Int32} {σ : ST} (h_r_X4_take : ∀ (x1 : Nat) (x2 : Nat) (x3 : Int32) (x4 : Int32) (x5 : Int32) (x6 : Int32) (x7 : Int32) (σ : ST), (x1 = 20 ∨ 62 ≤ x1) → (x2 = 20 ∨ 62 ≤ x2) → KYA s σ → PF st0 (KYA s) (r_X4_take x1 x2 x3 x4 x5 x6 x7 σ)) (h_r_X4_takeField : ∀ (x1 : Nat) (x2 : Nat) (x3 : Int32) (x4 : Int32) (x5 : Int32) (x6 : Int32) (x7 : Int32) (σ : ST), (x1 = 20 ∨ 62 ≤ x1) → (x2 = 20 ∨ 62 ≤ x2) → KYA s σ → PF st0 (KYA s) (r_X4_takeField x1 x2 x3 x4 x5 x6 x7 σ)) (h_r_X4_takeList : ∀ (x1 : Nat) (x2 : Nat) (x3 : Int32) (x4 : Int32) (x5 : Int32) (x6 : Int32) (x7 : Int32) (σ : ST), (x1 = 20 ∨ 62 ≤ x1) → (x2 = 20 ∨ 62 ≤ x2) → KYA s σ → PF st0 (KYA s) (r_X4_takeList x1 x2 x3 x4 x5 x6 x7 σ)) (h_r_X4_takeOwn : ∀ (x1 : Nat) (x2 : Nat) (x3 : Int32) (x4 : Int32) (x5 : Int32) (x6 : Int32) (x7 : Int32) (σ : ST), (x1 = 20 ∨ 62 ≤ x1) → (x2 = 20 ∨ 62 ≤ x2) → KYA s σ → PF st0 (KYA s) (r_X4_takeOwn x1 x2 x3 x4 x5 x6 x7 σ)) (h_r_X4_takeRecord : ∀ (x1 : Nat) (x2 : Nat) (x3 : Int32) (x4 : Int32) (x5 : Int32) (x6 : Int32) (x7 : Int32) (σ : ST), (x1 = 20 ∨ 62 ≤ x1) → (x2 = 20 ∨ 62 ≤ x2) → KYA s σ → PF st0 (KYA s) (r_X4_takeRecord x1 x2 x3 x4 x5 x6 x7 σ)) (h_b : (b = 20 ∨ 62 ≤ b)) (h_t : (t = 20 ∨ 62 ≤ t)) (h : KYA s σ) : PF st0 (KYA s) (f_X4_take_140 r_X4_take r_X4_takeField r_X4_takeList r_X4_takeOwn r_X4_takeRecord b t x2 x3 x4 x5 x8 σ) := by
  unfold f_X4_take_140
  exact (PF.bnd (h_r_X4_takeOwn _ _ _ _ _ _ _ _ (by omega) (by omega) h) (fun q1 hq1 => (PF.bnd (wy_X4_stepBack (by omega) hq1) (fun q3 hq3 => (PF.ret0 hq3)))))
theorem wy_X4_take_34 {s : ST} {r_X4_take : Nat → Nat → Int32 → Int32 → Int32 → Int32 → Int32 → ST → Option (ST)} {r_X4_takeField : Nat → Nat → Int32 → Int32 → Int32 → Int32 → Int32 → ST → Option (ST)} {r_X4_takeList : Nat → Nat → Int32 → Int32 → Int32 → Int32 → Int32 → ST → Option (ST)} {r_X4_takeOwn : Nat → Nat → Int32 → Int32 → Int32 → Int32 → Int32 → ST → Option (ST)} {r_X4_takeRecord : Nat → Nat → Int32 → Int32 → Int32 → Int32 → Int32 → ST → Option (ST)} {b : Nat} {t : Nat} {x1 : Int32} {x2 : Int32} {x3 : Int32} {x4 : Int32} {x5 : Int32} {σ : ST} (h_r_X4_take : ∀ (x1 : Nat) (x2 : Nat) (x3 : Int32) (x4 : Int32) (x5 : Int32) (x6 : Int32) (x7 : Int32) (σ : ST), (x1 = 20 ∨ 62 ≤ x1) → (x2 = 20 ∨ 62 ≤ x2) → KYA s σ → PF st0 (KYA s) (r_X4_take x1 x2 x3 x4 x5 x6 x7 σ)) (h_r_X4_takeField : ∀ (x1 : Nat) (x2 : Nat) (x3 : Int32) (x4 : Int32) (x5 : Int32) (x6 : Int32) (x7 : Int32) (σ : ST), (x1 = 20 ∨ 62 ≤ x1) → (x2 = 20 ∨ 62 ≤ x2) → KYA s σ → PF st0 (KYA s) (r_X4_takeField x1 x2 x3 x4 x5 x6 x7 σ)) (h_r_X4_takeList : ∀ (x1 : Nat) (x2 : Nat) (x3 : Int32) (x4 : Int32) (x5 : Int32) (x6 : Int32) (x7 : Int32) (σ : ST), (x1 = 20 ∨ 62 ≤ x1) → (x2 = 20 ∨ 62 ≤ x2) → KYA s σ → PF st0 (KYA s) (r_X4_takeList x1 x2 x3 x4 x5 x6 x7 σ)) (h_r_X4_takeOwn : ∀ (x1 : Nat) (x2 : Nat) (x3 : Int32) (x4 : Int32) (x5 : Int32) (x6 : Int32) (x7 : Int32) (σ : ST), (x1 = 20 ∨ 62 ≤ x1) → (x2 = 20 ∨ 62 ≤ x2) → KYA s σ → PF st0 (KYA s) (r_X4_takeOwn x1 x2 x3 x4 x5 x6 x7 σ)) (h_r_X4_takeRecord : ∀ (x1 : Nat) (x2 : Nat) (x3 : Int32) (x4 : Int32) (x5 : Int32) (x6 : Int32) (x7 : Int32) (σ : ST), (x1 = 20 ∨ 62 ≤ x1) → (x2 = 20 ∨ 62 ≤ x2) → KYA s σ → PF st0 (KYA s) (r_X4_takeRecord x1 x2 x3 x4 x5 x6 x7 σ)) (h_b : (b = 20 ∨ 62 ≤ b)) (h_t : (t = 20 ∨ 62 ≤ t)) (h : KYA s σ) : PF st0 (KYA s) (f_X4_take_34 r_X4_take r_X4_takeField r_X4_takeList r_X4_takeOwn r_X4_takeRecord b t x1 x2 x3 x4 x5 σ) := by
  unfold f_X4_take_34
  exact (PF.bnd (wy_X5_sortOf  h) (fun q1 hq1 => (PF.ite (fun _ => (PF.bnd (wy_X5_branchesOf  hq1) (fun q3 hq3 => (PF.bnd (wy_X4_takeCount (by omega) hq3) (fun q5 hq5 => (PF.ite (fun _ => (PF.bnd (wy_X5_branchOf  hq5) (fun q7 hq7 => (PF.bnd (wy_X4_step (by omega) hq7) (fun q9 hq9 => (PF.ite (fun _ => (wy_X4_take_140 h_r_X4_take h_r_X4_takeField h_r_X4_takeList h_r_X4_takeOwn h_r_X4_takeRecord (by omega) (by omega) hq9)) (fun _ => (PF.bnd (wy_X0_fits  hq9) (fun q11 hq11 => (PF.ite (fun _ => (PF.bnd (wy_X4_fail (by omega) hq11) (fun q13 hq13 => (PF.ret0 hq13)))) (fun _ => (wy_X4_take_140 h_r_X4_take h_r_X4_takeField h_r_X4_takeList h_r_X4_takeOwn h_r_X4_takeRecord (by omega) (by omega) hq11)))))))))))) (fun _ => (PF.ret0 hq5)))))))) (fun _ => (PF.bnd (h_r_X4_takeOwn _ _ _ _ _ _ _ _ (by omega) (by omega) hq1) (fun q15 hq15 => (PF.ret0 hq15)))))))
theorem wy_X4_take {s : ST} {r_X4_take : Nat → Nat → Int32 → Int32 → Int32 → Int32 → Int32 → ST → Option (ST)} {r_X4_takeField : Nat → Nat → Int32 → Int32 → Int32 → Int32 → Int32 → ST → Option (ST)} {r_X4_takeList : Nat → Nat → Int32 → Int32 → Int32 → Int32 → Int32 → ST → Option (ST)} {r_X4_takeOwn : Nat → Nat → Int32 → Int32 → Int32 → Int32 → Int32 → ST → Option (ST)} {r_X4_takeRecord : Nat → Nat → Int32 → Int32 → Int32 → Int32 → Int32 → ST → Option (ST)} {b : Nat} {t : Nat} {p0 : Int32} {p1 : Int32} {p2 : Int32} {p3 : Int32} {p4 : Int32} {σ : ST} (h_r_X4_take : ∀ (x1 : Nat) (x2 : Nat) (x3 : Int32) (x4 : Int32) (x5 : Int32) (x6 : Int32) (x7 : Int32) (σ : ST), (x1 = 20 ∨ 62 ≤ x1) → (x2 = 20 ∨ 62 ≤ x2) → KYA s σ → PF st0 (KYA s) (r_X4_take x1 x2 x3 x4 x5 x6 x7 σ)) (h_r_X4_takeField : ∀ (x1 : Nat) (x2 : Nat) (x3 : Int32) (x4 : Int32) (x5 : Int32) (x6 : Int32) (x7 : Int32) (σ : ST), (x1 = 20 ∨ 62 ≤ x1) → (x2 = 20 ∨ 62 ≤ x2) → KYA s σ → PF st0 (KYA s) (r_X4_takeField x1 x2 x3 x4 x5 x6 x7 σ)) (h_r_X4_takeList : ∀ (x1 : Nat) (x2 : Nat) (x3 : Int32) (x4 : Int32) (x5 : Int32) (x6 : Int32) (x7 : Int32) (σ : ST), (x1 = 20 ∨ 62 ≤ x1) → (x2 = 20 ∨ 62 ≤ x2) → KYA s σ → PF st0 (KYA s) (r_X4_takeList x1 x2 x3 x4 x5 x6 x7 σ)) (h_r_X4_takeOwn : ∀ (x1 : Nat) (x2 : Nat) (x3 : Int32) (x4 : Int32) (x5 : Int32) (x6 : Int32) (x7 : Int32) (σ : ST), (x1 = 20 ∨ 62 ≤ x1) → (x2 = 20 ∨ 62 ≤ x2) → KYA s σ → PF st0 (KYA s) (r_X4_takeOwn x1 x2 x3 x4 x5 x6 x7 σ)) (h_r_X4_takeRecord : ∀ (x1 : Nat) (x2 : Nat) (x3 : Int32) (x4 : Int32) (x5 : Int32) (x6 : Int32) (x7 : Int32) (σ : ST), (x1 = 20 ∨ 62 ≤ x1) → (x2 = 20 ∨ 62 ≤ x2) → KYA s σ → PF st0 (KYA s) (r_X4_takeRecord x1 x2 x3 x4 x5 x6 x7 σ)) (h_b : (b = 20 ∨ 62 ≤ b)) (h_t : (t = 20 ∨ 62 ≤ t)) (h : KYA s σ) : PF st0 (KYA s) (f_X4_take r_X4_take r_X4_takeField r_X4_takeList r_X4_takeOwn r_X4_takeRecord b t p0 p1 p2 p3 p4 σ) := by
  unfold f_X4_take
  exact (PF.ite (fun _ => (PF.ite (fun _ => (PF.bnd (wy_X4_isEmptyThere  h) (fun q1 hq1 => (PF.ite (fun _ => (wy_X4_take_34 h_r_X4_take h_r_X4_takeField h_r_X4_takeList h_r_X4_takeOwn h_r_X4_takeRecord (by omega) (by omega) hq1)) (fun _ => (PF.ret0 hq1)))))) (fun _ => (wy_X4_take_34 h_r_X4_take h_r_X4_takeField h_r_X4_takeList h_r_X4_takeOwn h_r_X4_takeRecord (by omega) (by omega) h)))) (fun _ => (PF.bnd (wy_X4_fail (by omega) h) (fun q3 hq3 => (PF.ret0 hq3)))))
theorem wy_X4_takeField_82 {s : ST} {r_X4_take : Nat → Nat → Int32 → Int32 → Int32 → Int32 → Int32 → ST → Option (ST)} {r_X4_takeField : Nat → Nat → Int32 → Int32 → Int32 → Int32 → Int32 → ST → Option (ST)} {r_X4_takeList : Nat → Nat → Int32 → Int32 → Int32 → Int32 → Int32 → ST → Option (ST)} {r_X4_takeOwn : Nat → Nat → Int32 → Int32 → Int32 → Int32 → Int32 → ST → Option (ST)} {r_X4_takeRecord : Nat → Nat → Int32 → Int32 → Int32 → Int32 → Int32 → ST → Option (ST)} {b : Nat} {t : Nat} {x1 : Int32} {x5 : Int32} {x7 : Int32} {σ : ST} (h_r_X4_take : ∀ (x1 : Nat) (x2 : Nat) (x3 : Int32) (x4 : Int32) (x5 : Int32) (x6 : Int32) (x7 : Int32) (σ : ST), (x1 = 20 ∨ 62 ≤ x1) → (x2 = 20 ∨ 62 ≤ x2) → KYA s σ → PF st0 (KYA s) (r_X4_take x1 x2 x3 x4 x5 x6 x7 σ)) (h_r_X4_takeField : ∀ (x1 : Nat) (x2 : Nat) (x3 : Int32) (x4 : Int32) (x5 : Int32) (x6 : Int32) (x7 : Int32) (σ : ST), (x1 = 20 ∨ 62 ≤ x1) → (x2 = 20 ∨ 62 ≤ x2) → KYA s σ → PF st0 (KYA s) (r_X4_takeField x1 x2 x3 x4 x5 x6 x7 σ)) (h_r_X4_takeList : ∀ (x1 : Nat) (x2 : Nat) (x3 : Int32) (x4 : Int32) (x5 : Int32) (x6 : Int32) (x7 : Int32) (σ : ST), (x1 = 20 ∨ 62 ≤ x1) → (x2 = 20 ∨ 62 ≤ x2) → KYA s σ → PF st0 (KYA s) (r_X4_takeList x1 x2 x3 x4 x5 x6 x7 σ)) (h_r_X4_takeOwn : ∀ (x1 : Nat) (x2 : Nat) (x3 : Int32) (x4 : Int32) (x5 : Int32) (x6 : Int32) (x7 : Int32) (σ : ST), (x1 = 20 ∨ 62 ≤ x1) → (x2 = 20 ∨ 62 ≤ x2) → KYA s σ → PF st0 (KYA s) (r_X4_takeOwn x1 x2 x3 x4 x5 x6 x7 σ)) (h_r_X4_takeRecord : ∀ (x1 : Nat) (x2 : Nat) (x3 : Int32) (x4 : Int32) (x5 : Int32) (x6 : Int32) (x7 : Int32) (σ : ST), (x1 = 20 ∨ 62 ≤ x1) → (x2 = 20 ∨ 62 ≤ x2) → KYA s σ → PF st0 (KYA s) (r_X4_takeRecord x1 x2 x3 x4 x5 x6 x7 σ)) (h_b : (b = 20 ∨ 62 ≤ b)) (h_t : (t = 20 ∨ 62 ≤ t)) (h : KYA s σ) : PF st0 (KYA s) (f_X4_takeField_82 r_X4_take r_X4_takeField r_X4_takeList r_X4_takeOwn r_X4_takeRecord b t x1 x5 x7 σ) := by
  unfold f_X4_takeField_82
  exact (PF.ite (fun _ => (PF.bnd (h_r_X4_take _ _ _ _ _ _ _ _ (by omega) (by omega) h) (fun q1 hq1 => (PF.ret0 hq1)))) (fun _ => (PF.ret0 h)))
theorem wy_X4_sourceAt {s : ST} {b : Nat} {t : Nat} {p0 : Int32} {p1 : Int32} {σ : ST}   (h : KYA s σ) : PF st1 (KYA s) (f_X4_sourceAt b t p0 p1 σ) := by
  unfold f_X4_sourceAt
  exact (PF.ite (fun _ => (PF.ret1 h)) (fun _ => (PF.ite (fun _ => (PF.ret1 h)) (fun _ => (PF.ite (fun _ => (PF.ret1 h)) (fun _ => (PF.ite (fun _ => (PF.ret1 h)) (fun _ => (PF.ite (fun _ => (PF.ret1 h)) (fun _ => PF.none))))))))))
theorem wy_X4_takeField_76 {s : ST} {r_X4_take : Nat → Nat → Int32 → Int32 → Int32 → Int32 → Int32 → ST → Option (ST)} {r_X4_takeField : Nat → Nat → Int32 → Int32 → Int32 → Int32 → Int32 → ST → Option (ST)} {r_X4_takeList : Nat → Nat → Int32 → Int32 → Int32 → Int32 → Int32 → ST → Option (ST)} {r_X4_takeOwn : Nat → Nat → Int32 → Int32 → Int32 → Int32 → Int32 → ST → Option (ST)} {r_X4_takeRecord : Nat → Nat → Int32 → Int32 → Int32 → Int32 → Int32 → ST → Option (ST)} {k12 : Int32 → Int32 → Int32 → Int32 → Int32 → Int32 → Int32 → Int32 → ST → Option (ST)} {b : Nat} {t : Nat} {x1 : Int32} {x2 : Int32} {x3 : Int32} {x4 : Int32} {x5 : Int32} {x6 : Int32} {x7 : Int32} {x8 : Int32} {σ : ST} (h_r_X4_take : ∀ (x1 : Nat) (x2 : Nat) (x3 : Int32) (x4 : Int32) (x5 : Int32) (x6 : Int32) (x7 : Int32) (σ : ST), (x1 = 20 ∨ 62 ≤ x1) → (x2 = 20 ∨ 62 ≤ x2) → KYA s σ → PF st0 (KYA s) (r_X4_take x1 x2 x3 x4 x5 x6 x7 σ)) (h_r_X4_takeField : ∀ (x1 : Nat) (x2 : Nat) (x3 : Int32) (x4 : Int32) (x5 : Int32) (x6 : Int32) (x7 : Int32) (σ : ST), (x1 = 20 ∨ 62 ≤ x1) → (x2 = 20 ∨ 62 ≤ x2) → KYA s σ → PF st0 (KYA s) (r_X4_takeField x1 x2 x3 x4 x5 x6 x7 σ)) (h_r_X4_takeList : ∀ (x1 : Nat) (x2 : Nat) (x3 : Int32) (x4 : Int32) (x5 : Int32) (x6 : Int32) (x7 : Int32) (σ : ST), (x1 = 20 ∨ 62 ≤ x1) → (x2 = 20 ∨ 62 ≤ x2) → KYA s σ → PF st0 (KYA s) (r_X4_takeList x1 x2 x3 x4 x5 x6 x7 σ)) (h_r_X4_takeOwn : ∀ (x1 : Nat) (x2 : Nat) (x3 : Int32) (x4 : Int32) (x5 : Int32) (x6 : Int32) (x7 : Int32) (σ : ST), (x1 = 20 ∨ 62 ≤ x1) → (x2 = 20 ∨ 62 ≤ x2) → KYA s σ → PF st0 (KYA s) (r_X4_takeOwn x1 x2 x3 x4 x5 x6 x7 σ)) (h_r_X4_takeRecord : ∀ (x1 : Nat) (x2 : Nat) (x3 : Int32) (x4 : Int32) (x5 : Int32) (x6 : Int32) (x7 : Int32) (σ : ST), (x1 = 20 ∨ 62 ≤ x1) → (x2 = 20 ∨ 62 ≤ x2) → KYA s σ → PF st0 (KYA s) (r_X4_takeRecord x1 x2 x3 x4 x5 x6 x7 σ)) (h_k12 : ∀ (x1 : Int32) (x2 : Int32) (x3 : Int32) (x4 : Int32) (x5 : Int32) (x6 : Int32) (x7 : Int32) (x8 : Int32) (σ : ST), KYA s σ → PF st0 (KYA s) (k12 x1 x2 x3 x4 x5 x6 x7 x8 σ))  (h : KYA s σ) : PF st0 (KYA s) (f_X4_takeField_76 r_X4_take r_X4_takeField r_X4_takeList r_X4_takeOwn r_X4_takeRecord k12 b t x1 x2 x3 x4 x5 x6 x7 x8 σ) := by
  unfold f_X4_takeField_76
  exact (h_k12 _ _ _ _ _ _ _ _ _ h)
theorem wy_X4_takeField_12 {s : ST} {r_X4_take : Nat → Nat → Int32 → Int32 → Int32 → Int32 → Int32 → ST → Option (ST)} {r_X4_takeField : Nat → Nat → Int32 → Int32 → Int32 → Int32 → Int32 → ST → Option (ST)} {r_X4_takeList : Nat → Nat → Int32 → Int32 → Int32 → Int32 → Int32 → ST → Option (ST)} {r_X4_takeOwn : Nat → Nat → Int32 → Int32 → Int32 → Int32 → Int32 → ST → Option (ST)} {r_X4_takeRecord : Nat → Nat → Int32 → Int32 → Int32 → Int32 → Int32 → ST → Option (ST)} {b : Nat} {t : Nat} (h_r_X4_take : ∀ (x1 : Nat) (x2 : Nat) (x3 : Int32) (x4 : Int32) (x5 : Int32) (x6 : Int32) (x7 : Int32) (σ : ST), (x1 = 20 ∨ 62 ≤ x1) → (x2 = 20 ∨ 62 ≤ x2) → KYA s σ → PF st0 (KYA s) (r_X4_take x1 x2 x3 x4 x5 x6 x7 σ)) (h_r_X4_takeField : ∀ (x1 : Nat) (x2 : Nat) (x3 : Int32) (x4 : Int32) (x5 : Int32) (x6 : Int32) (x7 : Int32) (σ : ST), (x1 = 20 ∨ 62 ≤ x1) → (x2 = 20 ∨ 62 ≤ x2) → KYA s σ → PF st0 (KYA s) (r_X4_takeField x1 x2 x3 x4 x5 x6 x7 σ)) (h_r_X4_takeList : ∀ (x1 : Nat) (x2 : Nat) (x3 : Int32) (x4 : Int32) (x5 : Int32) (x6 : Int32) (x7 : Int32) (σ : ST), (x1 = 20 ∨ 62 ≤ x1) → (x2 = 20 ∨ 62 ≤ x2) → KYA s σ → PF st0 (KYA s) (r_X4_takeList x1 x2 x3 x4 x5 x6 x7 σ)) (h_r_X4_takeOwn : ∀ (x1 : Nat) (x2 : Nat) (x3 : Int32) (x4 : Int32) (x5 : Int32) (x6 : Int32) (x7 : Int32) (σ : ST), (x1 = 20 ∨ 62 ≤ x1) → (x2 = 20 ∨ 62 ≤ x2) → KYA s σ → PF st0 (KYA s) (r_X4_takeOwn x1 x2 x3 x4 x5 x6 x7 σ)) (h_r_X4_takeRecord : ∀ (x1 : Nat) (x2 : Nat) (x3 : Int32) (x4 : Int32) (x5 : Int32) (x6 : Int32) (x7 : Int32) (σ : ST), (x1 = 20 ∨ 62 ≤ x1) → (x2 = 20 ∨ 62 ≤ x2) → KYA s σ → PF st0 (KYA s) (r_X4_takeRecord x1 x2 x3 x4 x5 x6 x7 σ)) (h_b : (b = 20 ∨ 62 ≤ b)) (h_t : (t = 20 ∨ 62 ≤ t)) : ∀ (n : Nat) (x1 : Int32) (x2 : Int32) (x3 : Int32) (x4 : Int32) (x5 : Int32) (x6 : Int32) (x7 : Int32) (x8 : Int32) (σ : ST), KYA s σ → PF st0 (KYA s) (f_X4_takeField_12 r_X4_take r_X4_takeField r_X4_takeList r_X4_takeOwn r_X4_takeRecord b t n x1 x2 x3 x4 x5 x6 x7 x8 σ) := by
  intro n
  induction n with
  | zero => intro x1 x2 x3 x4 x5 x6 x7 x8 σ h; rw [f_X4_takeField_12]; exact PF.none
  | succ n ih =>
    intro x1 x2 x3 x4 x5 x6 x7 x8 σ h
    rw [f_X4_takeField_12]
    exact (PF.bnd (wy_X5_fieldsOf  h) (fun q1 hq1 => (PF.ite (fun _ => (wy_X4_takeField_82 h_r_X4_take h_r_X4_takeField h_r_X4_takeList h_r_X4_takeOwn h_r_X4_takeRecord (by omega) (by omega) hq1)) (fun _ => (PF.ite (fun _ => (PF.bnd (wy_X4_sourceAt  hq1) (fun q3 hq3 => (PF.ite (fun _ => (PF.bnd (wy_X5_typeOf  (KYA.i (by omega) hq3)) (fun q5 hq5 => (PF.bnd (h_r_X4_take _ _ _ _ _ _ _ _ (by omega) (by omega) hq5) (fun q7 hq7 => (wy_X4_takeField_76 h_r_X4_take h_r_X4_takeField h_r_X4_takeList h_r_X4_takeOwn h_r_X4_takeRecord ih hq7)))))) (fun _ => (wy_X4_takeField_76 h_r_X4_take h_r_X4_takeField h_r_X4_takeList h_r_X4_takeOwn h_r_X4_takeRecord ih hq3)))))) (fun _ => (wy_X4_takeField_82 h_r_X4_take h_r_X4_takeField h_r_X4_takeList h_r_X4_takeOwn h_r_X4_takeRecord (by omega) (by omega) hq1)))))))
theorem wy_X4_takeField {s : ST} {r_X4_take : Nat → Nat → Int32 → Int32 → Int32 → Int32 → Int32 → ST → Option (ST)} {r_X4_takeField : Nat → Nat → Int32 → Int32 → Int32 → Int32 → Int32 → ST → Option (ST)} {r_X4_takeList : Nat → Nat → Int32 → Int32 → Int32 → Int32 → Int32 → ST → Option (ST)} {r_X4_takeOwn : Nat → Nat → Int32 → Int32 → Int32 → Int32 → Int32 → ST → Option (ST)} {r_X4_takeRecord : Nat → Nat → Int32 → Int32 → Int32 → Int32 → Int32 → ST → Option (ST)} {b : Nat} {t : Nat} {p0 : Int32} {p1 : Int32} {p2 : Int32} {p3 : Int32} {p4 : Int32} {σ : ST} (h_r_X4_take : ∀ (x1 : Nat) (x2 : Nat) (x3 : Int32) (x4 : Int32) (x5 : Int32) (x6 : Int32) (x7 : Int32) (σ : ST), (x1 = 20 ∨ 62 ≤ x1) → (x2 = 20 ∨ 62 ≤ x2) → KYA s σ → PF st0 (KYA s) (r_X4_take x1 x2 x3 x4 x5 x6 x7 σ)) (h_r_X4_takeField : ∀ (x1 : Nat) (x2 : Nat) (x3 : Int32) (x4 : Int32) (x5 : Int32) (x6 : Int32) (x7 : Int32) (σ : ST), (x1 = 20 ∨ 62 ≤ x1) → (x2 = 20 ∨ 62 ≤ x2) → KYA s σ → PF st0 (KYA s) (r_X4_takeField x1 x2 x3 x4 x5 x6 x7 σ)) (h_r_X4_takeList : ∀ (x1 : Nat) (x2 : Nat) (x3 : Int32) (x4 : Int32) (x5 : Int32) (x6 : Int32) (x7 : Int32) (σ : ST), (x1 = 20 ∨ 62 ≤ x1) → (x2 = 20 ∨ 62 ≤ x2) → KYA s σ → PF st0 (KYA s) (r_X4_takeList x1 x2 x3 x4 x5 x6 x7 σ)) (h_r_X4_takeOwn : ∀ (x1 : Nat) (x2 : Nat) (x3 : Int32) (x4 : Int32) (x5 : Int32) (x6 : Int32) (x7 : Int32) (σ : ST), (x1 = 20 ∨ 62 ≤ x1) → (x2 = 20 ∨ 62 ≤ x2) → KYA s σ → PF st0 (KYA s) (r_X4_takeOwn x1 x2 x3 x4 x5 x6 x7 σ)) (h_r_X4_takeRecord : ∀ (x1 : Nat) (x2 : Nat) (x3 : Int32) (x4 : Int32) (x5 : Int32) (x6 : Int32) (x7 : Int32) (σ : ST), (x1 = 20 ∨ 62 ≤ x1) → (x2 = 20 ∨ 62 ≤ x2) → KYA s σ → PF st0 (KYA s) (r_X4_takeRecord x1 x2 x3 x4 x5 x6 x7 σ)) (h_b : (b = 20 ∨ 62 ≤ b)) (h_t : (t = 20 ∨ 62 ≤ t)) (h : KYA s σ) : PF st0 (KYA s) (f_X4_takeField r_X4_take r_X4_takeField r_X4_takeList r_X4_takeOwn r_X4_takeRecord b t p0 p1 p2 p3 p4 σ) := by
  unfold f_X4_takeField
  exact (wy_X4_takeField_12 h_r_X4_take h_r_X4_takeField h_r_X4_takeList h_r_X4_takeOwn h_r_X4_takeRecord (by omega) (by omega) _ _ _ _ _ _ _ _ _ _ h)
theorem wy_X7_setWorth {s : ST} {b : Nat} {p0 : Int32} {p1 : Int32} {p2 : Int64} {σ : ST}  (h_b : (b = 20 ∨ 62 ≤ b)) (h : KYA s σ) : PF st0 (KYA s) (f_X7_setWorth b p0 p1 p2 σ) := by
  unfold f_X7_setWorth
  exact (PF.bnd (wy_X7_isRow  h) (fun q1 hq1 => (PF.ite (fun _ => (PF.ret0 hq1)) (fun _ => (PF.ite (fun _ => (PF.ret0 (KYA.l (by omega) (KYA.i (by omega) hq1)))) (fun _ => PF.none))))))
theorem wy_X4_addNode_63 {s : ST} {b : Nat} {t : Nat} {x4 : Int32} {x5 : Int64} {x7 : Int32} {σ : ST}  (h_t : (t = 20 ∨ 62 ≤ t)) (h : KYA s σ) : PF st1 (KYA s) (f_X4_addNode_63 b t x4 x5 x7 σ) := by
  unfold f_X4_addNode_63
  exact (PF.ite (fun _ => (PF.bnd (wy_X7_setWorth (by omega) h) (fun q2 hq2 => (PF.ret1 hq2)))) (fun _ => PF.none))
theorem wy_X4_addNode_48 {s : ST} {b : Nat} {t : Nat} {x4 : Int32} {x5 : Int64} {y0 : Int32} {σ : ST}  (h_b : (b = 20 ∨ 62 ≤ b)) (h_t : (t = 20 ∨ 62 ≤ t)) (h : KYA s σ) : PF st1 (KYA s) (f_X4_addNode_48 b t x4 x5 y0 σ) := by
  unfold f_X4_addNode_48
  exact (PF.ite (fun _ => (PF.bnd (wy_X4_fail (by omega) h) (fun q1 hq1 => (wy_X4_addNode_63 (by omega) hq1)))) (fun _ => (wy_X4_addNode_63 (by omega) h)))
theorem wy_X7_link_155 {s : ST} {b : Nat} {x1 : Int32} {x2 : Int32} {σ : ST}  (h_b : (b = 20 ∨ 62 ≤ b)) (h : KYA s σ) : PF st0 (KYA s) (f_X7_link_155 b x1 x2 σ) := by
  unfold f_X7_link_155
  exact (PF.ite (fun _ => (PF.ite (fun _ => (PF.ite (fun _ => (PF.ret0 (KYA.i (by omega) h))) (fun _ => PF.none))) (fun _ => (PF.ret0 h)))) (fun _ => PF.none))
theorem wy_X7_link_103 {s : ST} {b : Nat} {x1 : Int32} {x2 : Int32} {x4 : Int32} {σ : ST}  (h_b : (b = 20 ∨ 62 ≤ b)) (h : KYA s σ) : PF st0 (KYA s) (f_X7_link_103 b x1 x2 x4 σ) := by
  unfold f_X7_link_103
  exact (PF.bnd (wy_X7_isRow  h) (fun q1 hq1 => (PF.ite (fun _ => (PF.ite (fun _ => (PF.ite (fun _ => (PF.bnd (PF.ret0 (KYA.i (by omega) (KYA.i (by omega) hq1))) (fun z5 hz5 => (wy_X7_link_155 (by omega) hz5)))) (fun _ => PF.none))) (fun _ => PF.none))) (fun _ => (PF.ite (fun _ => (PF.ite (fun _ => (PF.bnd (PF.ret0 (KYA.i (by omega) (KYA.i (by omega) hq1))) (fun z8 hz8 => (wy_X7_link_155 (by omega) hz8)))) (fun _ => PF.none))) (fun _ => PF.none))))))
theorem wy_X7_link_50 {s : ST} {b : Nat}  (h_b : (b = 20 ∨ 62 ≤ b)) : ∀ (n : Nat) (x1 : Int32) (x2 : Int32) (x3 : Int32) (x4 : Int32) (x5 : Int32) (σ : ST), KYA s σ → PF st0 (KYA s) (f_X7_link_50 b n x1 x2 x3 x4 x5 σ) := by
  intro n
  induction n with
  | zero => intro x1 x2 x3 x4 x5 σ h; rw [f_X7_link_50]; exact PF.none
  | succ n ih =>
    intro x1 x2 x3 x4 x5 σ h
    rw [f_X7_link_50]
    exact (PF.ite (fun _ => (wy_X7_link_103 (by omega) h)) (fun _ => (PF.bnd (wy_X7_isRow  h) (fun q1 hq1 => (PF.ite (fun _ => (wy_X7_link_103 (by omega) hq1)) (fun _ => (PF.ite (fun _ => (PF.ite (fun _ => (PF.ite (fun _ => (wy_X7_link_103 (by omega) hq1)) (fun _ => (ih _ _ _ _ _ _ hq1)))) (fun _ => PF.none))) (fun _ => PF.none))))))))
theorem wy_X7_link_39 {s : ST} {b : Nat} {x1 : Int32} {x2 : Int32} {x4 : Int32} {σ : ST}  (h_b : (b = 20 ∨ 62 ≤ b)) (h : KYA s σ) : PF st0 (KYA s) (f_X7_link_39 b x1 x2 x4 σ) := by
  unfold f_X7_link_39
  exact (PF.ite (fun _ => (wy_X7_link_50 (by omega) _ _ _ _ _ _ _ h)) (fun _ => PF.none))
theorem wy_X7_link {s : ST} {b : Nat} {p0 : Int32} {p1 : Int32} {σ : ST}  (h_b : (b = 20 ∨ 62 ≤ b)) (h : KYA s σ) : PF st0 (KYA s) (f_X7_link b p0 p1 σ) := by
  unfold f_X7_link
  exact (PF.ite (fun _ => (PF.bnd (wy_X7_isRow  h) (fun q2 hq2 => (PF.ite (fun _ => (wy_X7_link_39 (by omega) hq2)) (fun _ => (PF.ite (fun _ => (PF.ite (fun _ => (PF.ite (fun _ => (wy_X7_link_39 (by omega) hq2)) (fun _ => (wy_X7_link_103 (by omega) hq2)))) (fun _ => PF.none))) (fun _ => PF.none))))))) (fun _ => PF.none))
theorem wy_X7_grow {s : ST} {b : Nat} {p0 : Int32} {p1 : Int32} {p2 : Int32} {σ : ST}  (h_b : (b = 20 ∨ 62 ≤ b)) (h : KYA s σ) : PF st1 (KYA s) (f_X7_grow b p0 p1 p2 σ) := by
  unfold f_X7_grow
  exact (PF.ite (fun _ => (PF.ite (fun _ => (PF.bnd (PF.ret0 (KYA.i (by omega) (KYA.i (by omega) (KYA.i (by omega) h)))) (fun z2 hz2 => (PF.bnd (PF.ret0 (KYA.i (by omega) (KYA.i (by omega) (KYA.i (by omega) hz2)))) (fun z3 hz3 => (PF.bnd (PF.ret0 (KYA.i (by omega) (KYA.l (by omega) hz3))) (fun z4 hz4 => (PF.bnd (PF.ret0 (KYA.i (by omega) (KYA.i (by omega) hz4))) (fun z5 hz5 => (PF.bnd (wy_X7_isRow  hz5) (fun q6 hq6 => (PF.ite (fun _ => (PF.ret1 hq6)) (fun _ => (PF.bnd (wy_X7_link (by omega) hq6) (fun q8 hq8 => (PF.ret1 hq8)))))))))))))))) (fun _ => PF.none))) (fun _ => (PF.ret1 h)))
theorem wy_X4_addNode {s : ST} {b : Nat} {t : Nat} {p0 : Int32} {p1 : Int32} {p2 : Int32} {p3 : Int32} {p4 : Int64} {σ : ST}  (h_b : (b = 20 ∨ 62 ≤ b)) (h_t : (t = 20 ∨ 62 ≤ t)) (h : KYA s σ) : PF st1 (KYA s) (f_X4_addNode b t p0 p1 p2 p3 p4 σ) := by
  unfold f_X4_addNode
  exact (PF.ite (fun _ => (PF.ret1 h)) (fun _ => (PF.ite (fun _ => (PF.ite (fun _ => (PF.ite (fun _ => (wy_X4_addNode_48 (by omega) (by omega) h)) (fun _ => (PF.bnd (wy_X5_sortOf  h) (fun q2 hq2 => (PF.bnd (wy_X7_grow (by omega) hq2) (fun q4 hq4 => (wy_X4_addNode_48 (by omega) (by omega) hq4)))))))) (fun _ => PF.none))) (fun _ => (PF.ret1 h)))))
theorem wy_X4_takeList_48 {s : ST} {r_X4_take : Nat → Nat → Int32 → Int32 → Int32 → Int32 → Int32 → ST → Option (ST)} {r_X4_takeField : Nat → Nat → Int32 → Int32 → Int32 → Int32 → Int32 → ST → Option (ST)} {r_X4_takeList : Nat → Nat → Int32 → Int32 → Int32 → Int32 → Int32 → ST → Option (ST)} {r_X4_takeOwn : Nat → Nat → Int32 → Int32 → Int32 → Int32 → Int32 → ST → Option (ST)} {r_X4_takeRecord : Nat → Nat → Int32 → Int32 → Int32 → Int32 → Int32 → ST → Option (ST)} {b : Nat} {t : Nat} (h_r_X4_take : ∀ (x1 : Nat) (x2 : Nat) (x3 : Int32) (x4 : Int32) (x5 : Int32) (x6 : Int32) (x7 : Int32) (σ : ST), (x1 = 20 ∨ 62 ≤ x1) → (x2 = 20 ∨ 62 ≤ x2) → KYA s σ → PF st0 (KYA s) (r_X4_take x1 x2 x3 x4 x5 x6 x7 σ)) (h_r_X4_takeField : ∀ (x1 : Nat) (x2 : Nat) (x3 : Int32) (x4 : Int32) (x5 : Int32) (x6 : Int32) (x7 : Int32) (σ : ST), (x1 = 20 ∨ 62 ≤ x1) → (x2 = 20 ∨ 62 ≤ x2) → KYA s σ → PF st0 (KYA s) (r_X4_takeField x1 x2 x3 x4 x5 x6 x7 σ)) (h_r_X4_takeList : ∀ (x1 : Nat) (x2 : Nat) (x3 : Int32) (x4 : Int32) (x5 : Int32) (x6 : Int32) (x7 : Int32) (σ : ST), (x1 = 20 ∨ 62 ≤ x1) → (x2 = 20 ∨ 62 ≤ x2) → KYA s σ → PF st0 (KYA s) (r_X4_takeList x1 x2 x3 x4 x5 x6 x7 σ)) (h_r_X4_takeOwn : ∀ (x1 : Nat) (x2 : Nat) (x3 : Int32) (x4 : Int32) (x5 : Int32) (x6 : Int32) (x7 : Int32) (σ : ST), (x1 = 20 ∨ 62 ≤ x1) → (x2 = 20 ∨ 62 ≤ x2) → KYA s σ → PF st0 (KYA s) (r_X4_takeOwn x1 x2 x3 x4 x5 x6 x7 σ)) (h_r_X4_takeRecord : ∀ (x1 : Nat) (x2 : Nat) (x3 : Int32) (x4 : Int32) (x5 : Int32) (x6 : Int32) (x7 : Int32) (σ : ST), (x1 = 20 ∨ 62 ≤ x1) → (x2 = 20 ∨ 62 ≤ x2) → KYA s σ → PF st0 (KYA s) (r_X4_takeRecord x1 x2 x3 x4 x5 x6 x7 σ)) (h_b : (b = 20 ∨ 62 ≤ b)) (h_t : (t = 20 ∨ 62 ≤ t)) : ∀ (n : Nat) (x1 : Int32) (x2 : Int32) (x3 : Int32) (x4 : Int32) (x5 : Int32) (x6 : Int32) (σ : ST), KYA s σ → PF st0 (KYA s) (f_X4_takeList_48 r_X4_take r_X4_takeField r_X4_takeList r_X4_takeOwn r_X4_takeRecord b t n x1 x2 x3 x4 x5 x6 σ) := by
  intro n
  induction n with
  | zero => intro x1 x2 x3 x4 x5 x6 σ h; rw [f_X4_takeList_48]; exact PF.none
  | succ n ih =>
    intro x1 x2 x3 x4 x5 x6 σ h
    rw [f_X4_takeList_48]
    exact (PF.ite (fun _ => (PF.ret0 h)) (fun _ => (PF.ite (fun _ => (PF.bnd (wy_X4_step (by omega) h) (fun q1 hq1 => (PF.bnd (h_r_X4_take _ _ _ _ _ _ _ _ (by omega) (by omega) hq1) (fun q3 hq3 => (PF.bnd (wy_X4_stepBack (by omega) hq3) (fun q5 hq5 => (ih _ _ _ _ _ _ _ hq5)))))))) (fun _ => (PF.ret0 h)))))
theorem wy_X4_takeList_43 {s : ST} {r_X4_take : Nat → Nat → Int32 → Int32 → Int32 → Int32 → Int32 → ST → Option (ST)} {r_X4_takeField : Nat → Nat → Int32 → Int32 → Int32 → Int32 → Int32 → ST → Option (ST)} {r_X4_takeList : Nat → Nat → Int32 → Int32 → Int32 → Int32 → Int32 → ST → Option (ST)} {r_X4_takeOwn : Nat → Nat → Int32 → Int32 → Int32 → Int32 → Int32 → ST → Option (ST)} {r_X4_takeRecord : Nat → Nat → Int32 → Int32 → Int32 → Int32 → Int32 → ST → Option (ST)} {b : Nat} {t : Nat} {x1 : Int32} {x5 : Int32} {x6 : Int32} {x7 : Int32} {y0 : Int32} {σ : ST} (h_r_X4_take : ∀ (x1 : Nat) (x2 : Nat) (x3 : Int32) (x4 : Int32) (x5 : Int32) (x6 : Int32) (x7 : Int32) (σ : ST), (x1 = 20 ∨ 62 ≤ x1) → (x2 = 20 ∨ 62 ≤ x2) → KYA s σ → PF st0 (KYA s) (r_X4_take x1 x2 x3 x4 x5 x6 x7 σ)) (h_r_X4_takeField : ∀ (x1 : Nat) (x2 : Nat) (x3 : Int32) (x4 : Int32) (x5 : Int32) (x6 : Int32) (x7 : Int32) (σ : ST), (x1 = 20 ∨ 62 ≤ x1) → (x2 = 20 ∨ 62 ≤ x2) → KYA s σ → PF st0 (KYA s) (r_X4_takeField x1 x2 x3 x4 x5 x6 x7 σ)) (h_r_X4_takeList : ∀ (x1 : Nat) (x2 : Nat) (x3 : Int32) (x4 : Int32) (x5 : Int32) (x6 : Int32) (x7 : Int32) (σ : ST), (x1 = 20 ∨ 62 ≤ x1) → (x2 = 20 ∨ 62 ≤ x2) → KYA s σ → PF st0 (KYA s) (r_X4_takeList x1 x2 x3 x4 x5 x6 x7 σ)) (h_r_X4_takeOwn : ∀ (x1 : Nat) (x2 : Nat) (x3 : Int32) (x4 : Int32) (x5 : Int32) (x6 : Int32) (x7 : Int32) (σ : ST), (x1 = 20 ∨ 62 ≤ x1) → (x2 = 20 ∨ 62 ≤ x2) → KYA s σ → PF st0 (KYA s) (r_X4_takeOwn x1 x2 x3 x4 x5 x6 x7 σ)) (h_r_X4_takeRecord : ∀ (x1 : Nat) (x2 : Nat) (x3 : Int32) (x4 : Int32) (x5 : Int32) (x6 : Int32) (x7 : Int32) (σ : ST), (x1 = 20 ∨ 62 ≤ x1) → (x2 = 20 ∨ 62 ≤ x2) → KYA s σ → PF st0 (KYA s) (r_X4_takeRecord x1 x2 x3 x4 x5 x6 x7 σ)) (h_b : (b = 20 ∨ 62 ≤ b)) (h_t : (t = 20 ∨ 62 ≤ t)) (h : KYA s σ) : PF st0 (KYA s) (f_X4_takeList_43 r_X4_take r_X4_takeField r_X4_takeList r_X4_takeOwn r_X4_takeRecord b t x1 x5 x6 x7 y0 σ) := by
  unfold f_X4_takeList_43
  exact (wy_X4_takeList_48 h_r_X4_take h_r_X4_takeField h_r_X4_takeList h_r_X4_takeOwn h_r_X4_takeRecord (by omega) (by omega) _ _ _ _ _ _ _ _ h)
theorem wy_X4_takeList {s : ST} {r_X4_take : Nat → Nat → Int32 → Int32 → Int32 → Int32 → Int32 → ST → Option (ST)} {r_X4_takeField : Nat → Nat → Int32 → Int32 → Int32 → Int32 → Int32 → ST → Option (ST)} {r_X4_takeList : Nat → Nat → Int32 → Int32 → Int32 → Int32 → Int32 → ST → Option (ST)} {r_X4_takeOwn : Nat → Nat → Int32 → Int32 → Int32 → Int32 → Int32 → ST → Option (ST)} {r_X4_takeRecord : Nat → Nat → Int32 → Int32 → Int32 → Int32 → Int32 → ST → Option (ST)} {b : Nat} {t : Nat} {p0 : Int32} {p1 : Int32} {p2 : Int32} {p3 : Int32} {p4 : Int32} {σ : ST} (h_r_X4_take : ∀ (x1 : Nat) (x2 : Nat) (x3 : Int32) (x4 : Int32) (x5 : Int32) (x6 : Int32) (x7 : Int32) (σ : ST), (x1 = 20 ∨ 62 ≤ x1) → (x2 = 20 ∨ 62 ≤ x2) → KYA s σ → PF st0 (KYA s) (r_X4_take x1 x2 x3 x4 x5 x6 x7 σ)) (h_r_X4_takeField : ∀ (x1 : Nat) (x2 : Nat) (x3 : Int32) (x4 : Int32) (x5 : Int32) (x6 : Int32) (x7 : Int32) (σ : ST), (x1 = 20 ∨ 62 ≤ x1) → (x2 = 20 ∨ 62 ≤ x2) → KYA s σ → PF st0 (KYA s) (r_X4_takeField x1 x2 x3 x4 x5 x6 x7 σ)) (h_r_X4_takeList : ∀ (x1 : Nat) (x2 : Nat) (x3 : Int32) (x4 : Int32) (x5 : Int32) (x6 : Int32) (x7 : Int32) (σ : ST), (x1 = 20 ∨ 62 ≤ x1) → (x2 = 20 ∨ 62 ≤ x2) → KYA s σ → PF st0 (KYA s) (r_X4_takeList x1 x2 x3 x4 x5 x6 x7 σ)) (h_r_X4_takeOwn : ∀ (x1 : Nat) (x2 : Nat) (x3 : Int32) (x4 : Int32) (x5 : Int32) (x6 : Int32) (x7 : Int32) (σ : ST), (x1 = 20 ∨ 62 ≤ x1) → (x2 = 20 ∨ 62 ≤ x2) → KYA s σ → PF st0 (KYA s) (r_X4_takeOwn x1 x2 x3 x4 x5 x6 x7 σ)) (h_r_X4_takeRecord : ∀ (x1 : Nat) (x2 : Nat) (x3 : Int32) (x4 : Int32) (x5 : Int32) (x6 : Int32) (x7 : Int32) (σ : ST), (x1 = 20 ∨ 62 ≤ x1) → (x2 = 20 ∨ 62 ≤ x2) → KYA s σ → PF st0 (KYA s) (r_X4_takeRecord x1 x2 x3 x4 x5 x6 x7 σ)) (h_b : (b = 20 ∨ 62 ≤ b)) (h_t : (t = 20 ∨ 62 ≤ t)) (h : KYA s σ) : PF st0 (KYA s) (f_X4_takeList r_X4_take r_X4_takeField r_X4_takeList r_X4_takeOwn r_X4_takeRecord b t p0 p1 p2 p3 p4 σ) := by
  unfold f_X4_takeList
  exact (PF.bnd (wy_X4_takeCount (by omega) h) (fun q1 hq1 => (PF.bnd (wy_X4_addNode (by omega) (by omega) hq1) (fun q3 hq3 => (PF.ite (fun _ => (wy_X4_takeList_43 h_r_X4_take h_r_X4_takeField h_r_X4_takeList h_r_X4_takeOwn h_r_X4_takeRecord (by omega) (by omega) hq3)) (fun _ => (PF.bnd (wy_X5_innerOf  hq3) (fun q5 hq5 => (wy_X4_takeList_43 h_r_X4_take h_r_X4_takeField h_r_X4_takeList h_r_X4_takeOwn h_r_X4_takeRecord (by omega) (by omega) hq5)))))))))
theorem wy_X4_takePlain_183 {s : ST} {b : Nat} {t : Nat} {y0 : Int64} {y1 : Int32} {y2 : Int32} {y3 : Int32} {y4 : Int32} {σ : ST}  (h_b : (b = 20 ∨ 62 ≤ b)) (h_t : (t = 20 ∨ 62 ≤ t)) (h : KYA s σ) : PF st0 (KYA s) (f_X4_takePlain_183 b t y0 y1 y2 y3 y4 σ) := by
  unfold f_X4_takePlain_183
  exact (PF.bnd (wy_X4_addNode (by omega) (by omega) h) (fun q1 hq1 => (PF.ret0 hq1)))
theorem wy_X10_bitsOfPositive_81 {s : ST} {x2 : UInt64} {x4 : Int32} {σ : ST}   (h : KYA s σ) : PF st1 (KYA s) (f_X10_bitsOfPositive_81 x2 x4 σ) := by
  unfold f_X10_bitsOfPositive_81
  exact (PF.ret1 h)
theorem wy_X10_bitsOfPositive_51 {s : ST}    : ∀ (n : Nat) (x1 : UInt64) (x2 : Int32) (x3 : Int32) (σ : ST), KYA s σ → PF st1 (KYA s) (f_X10_bitsOfPositive_51  n x1 x2 x3 σ) := by
  intro n
  induction n with
  | zero => intro x1 x2 x3 σ h; rw [f_X10_bitsOfPositive_51]; exact PF.none
  | succ n ih =>
    intro x1 x2 x3 σ h
    rw [f_X10_bitsOfPositive_51]
    exact (PF.ite (fun _ => (wy_X10_bitsOfPositive_81  h)) (fun _ => (PF.ite (fun _ => (wy_X10_bitsOfPositive_81  h)) (fun _ => (PF.ite (fun _ => (ih _ _ _ _ h)) (fun _ => PF.none))))))
theorem wy_X10_bitsOfPositive_48 {s : ST} {x2 : UInt64} {x4 : Int32} {σ : ST}   (h : KYA s σ) : PF st1 (KYA s) (f_X10_bitsOfPositive_48 x2 x4 σ) := by
  unfold f_X10_bitsOfPositive_48
  exact (wy_X10_bitsOfPositive_51  _ _ _ _ _ h)
theorem wy_X10_bitsOfPositive_18 {s : ST}    : ∀ (n : Nat) (x1 : UInt64) (x2 : Int32) (x3 : Int32) (σ : ST), KYA s σ → PF st1 (KYA s) (f_X10_bitsOfPositive_18  n x1 x2 x3 σ) := by
  intro n
  induction n with
  | zero => intro x1 x2 x3 σ h; rw [f_X10_bitsOfPositive_18]; exact PF.none
  | succ n ih =>
    intro x1 x2 x3 σ h
    rw [f_X10_bitsOfPositive_18]
    exact (PF.ite (fun _ => (wy_X10_bitsOfPositive_48  h)) (fun _ => (PF.ite (fun _ => (wy_X10_bitsOfPositive_48  h)) (fun _ => (PF.ite (fun _ => (ih _ _ _ _ h)) (fun _ => PF.none))))))
theorem wy_X10_bitsOfPositive {s : ST} {p0 : UInt64} {σ : ST}   (h : KYA s σ) : PF st1 (KYA s) (f_X10_bitsOfPositive p0 σ) := by
  unfold f_X10_bitsOfPositive
  exact (PF.ite (fun _ => (wy_X10_bitsOfPositive_18  _ _ _ _ _ h)) (fun _ => (PF.ret1 h)))
theorem wy_X10_bitsOfWhole {s : ST} {p0 : Int64} {σ : ST}   (h : KYA s σ) : PF st1 (KYA s) (f_X10_bitsOfWhole p0 σ) := by
  unfold f_X10_bitsOfWhole
  exact (PF.ite (fun _ => (PF.ite (fun _ => (PF.bnd (wy_X10_bitsOfPositive  h) (fun q2 hq2 => (PF.ret1 hq2)))) (fun _ => PF.none))) (fun _ => (PF.bnd (wy_X10_bitsOfPositive  h) (fun q4 hq4 => (PF.ret1 hq4)))))
theorem wy_X4_takePlain_159 {s : ST} {b : Nat} {t : Nat} {x2 : Int32} {x3 : Int32} {x4 : Int32} {x6 : Int32} {x7 : Int64} {y0 : Int32} {σ : ST}  (h_b : (b = 20 ∨ 62 ≤ b)) (h_t : (t = 20 ∨ 62 ≤ t)) (h : KYA s σ) : PF st0 (KYA s) (f_X4_takePlain_159 b t x2 x3 x4 x6 x7 y0 σ) := by
  unfold f_X4_takePlain_159
  exact (PF.ite (fun _ => (wy_X4_takePlain_183 (by omega) (by omega) h)) (fun _ => (PF.bnd (wy_X10_bitsOfWhole  h) (fun q1 hq1 => (wy_X4_takePlain_183 (by omega) (by omega) hq1)))))
theorem wy_X4_takePlain_158 {s : ST} {b : Nat} {t : Nat} {x2 : Int32} {x3 : Int32} {x4 : Int32} {x6 : Int32} {x7 : Int64} {σ : ST}  (h_b : (b = 20 ∨ 62 ≤ b)) (h_t : (t = 20 ∨ 62 ≤ t)) (h : KYA s σ) : PF st0 (KYA s) (f_X4_takePlain_158 b t x2 x3 x4 x6 x7 σ) := by
  unfold f_X4_takePlain_158
  exact (wy_X4_takePlain_159 (by omega) (by omega) h)
theorem wy_X4_takePlain_137 {s : ST} {b : Nat} {t : Nat} {x1 : Int32} {x2 : Int32} {x3 : Int32} {x4 : Int32} {x6 : Int32} {x7 : Int64} {σ : ST}  (h_b : (b = 20 ∨ 62 ≤ b)) (h_t : (t = 20 ∨ 62 ≤ t)) (h : KYA s σ) : PF st0 (KYA s) (f_X4_takePlain_137 b t x1 x2 x3 x4 x6 x7 σ) := by
  unfold f_X4_takePlain_137
  exact (PF.ite (fun _ => (wy_X4_takePlain_158 (by omega) (by omega) h)) (fun _ => (PF.bnd (wy_X5_sortOf  h) (fun q1 hq1 => (PF.ite (fun _ => (wy_X4_takePlain_159 (by omega) (by omega) hq1)) (fun _ => (wy_X4_takePlain_158 (by omega) (by omega) hq1)))))))
theorem wy_X10_isInt {s : ST} {p0 : Int64} {σ : ST}   (h : KYA s σ) : PF st1 (KYA s) (f_X10_isInt p0 σ) := by
  unfold f_X10_isInt
  exact (PF.ite (fun _ => (PF.ret1 h)) (fun _ => (PF.ite (fun _ => (PF.ret1 h)) (fun _ => (PF.ret1 h)))))
theorem wy_X4_takeReal_44 {s : ST} {b : Nat} {t : Nat} {x1 : Int64} {y0 : Int32} {σ : ST}   (h : KYA s σ) : PF st1 (KYA s) (f_X4_takeReal_44 b t x1 y0 σ) := by
  unfold f_X4_takeReal_44
  exact (PF.ite (fun _ => (PF.ret1 h)) (fun _ => (PF.ret1 h)))
theorem wy_X4_takeReal_4 {s : ST} {b : Nat} {t : Nat}  (h_b : (b = 20 ∨ 62 ≤ b)) : ∀ (n : Nat) (x1 : Int64) (x2 : Int32) (σ : ST), KYA s σ → PF st1 (KYA s) (f_X4_takeReal_4 b t n x1 x2 σ) := by
  intro n
  induction n with
  | zero => intro x1 x2 σ h; rw [f_X4_takeReal_4]; exact PF.none
  | succ n ih =>
    intro x1 x2 σ h
    rw [f_X4_takeReal_4]
    exact (PF.ite (fun _ => (PF.ite (fun _ => (wy_X4_takeReal_44  h)) (fun _ => (wy_X4_takeReal_44  h)))) (fun _ => (PF.bnd (wy_X4_takeByte (by omega) h) (fun q1 hq1 => (ih _ _ _ hq1)))))
theorem wy_X4_takeReal {s : ST} {b : Nat} {t : Nat} {σ : ST}  (h_b : (b = 20 ∨ 62 ≤ b)) (h : KYA s σ) : PF st1 (KYA s) (f_X4_takeReal b t σ) := by
  unfold f_X4_takeReal
  exact (wy_X4_takeReal_4 (by omega) _ _ _ _ h)
theorem wy_X4_takeLetters_45 {s : ST} {k5 : Int32 → Int32 → Int64 → Int32 → ST → Option (Int64 × ST)} {b : Nat} {t : Nat} {x1 : Int32} {x2 : Int32} {x3 : Int64} {x5 : Int32} {x6 : Int32} {σ : ST} (h_k5 : ∀ (x1 : Int32) (x2 : Int32) (x3 : Int64) (x4 : Int32) (σ : ST), KYA s σ → PF st1 (KYA s) (k5 x1 x2 x3 x4 σ))  (h : KYA s σ) : PF st1 (KYA s) (f_X4_takeLetters_45 k5 b t x1 x2 x3 x5 x6 σ) := by
  unfold f_X4_takeLetters_45
  exact (PF.val (h_k5 _ _ _ _ _ h))
theorem wy_X4_takeLetters_38 {s : ST} {k5 : Int32 → Int32 → Int64 → Int32 → ST → Option (Int64 × ST)} {b : Nat} {t : Nat} {x1 : Int32} {x2 : Int32} {x3 : Int64} {x5 : Int32} {x6 : Int32} {σ : ST} (h_k5 : ∀ (x1 : Int32) (x2 : Int32) (x3 : Int64) (x4 : Int32) (σ : ST), KYA s σ → PF st1 (KYA s) (k5 x1 x2 x3 x4 σ)) (h_b : (b = 20 ∨ 62 ≤ b)) (h : KYA s σ) : PF st1 (KYA s) (f_X4_takeLetters_38 k5 b t x1 x2 x3 x5 x6 σ) := by
  unfold f_X4_takeLetters_38
  exact (PF.bnd (wy_X4_fail (by omega) h) (fun q1 hq1 => (wy_X4_takeLetters_45 h_k5 hq1)))
theorem wy_X4_takeLetters_5 {s : ST} {b : Nat} {t : Nat}  (h_b : (b = 20 ∨ 62 ≤ b)) : ∀ (n : Nat) (x1 : Int32) (x2 : Int32) (x3 : Int64) (x4 : Int32) (σ : ST), KYA s σ → PF st1 (KYA s) (f_X4_takeLetters_5 b t n x1 x2 x3 x4 σ) := by
  intro n
  induction n with
  | zero => intro x1 x2 x3 x4 σ h; rw [f_X4_takeLetters_5]; exact PF.none
  | succ n ih =>
    intro x1 x2 x3 x4 σ h
    rw [f_X4_takeLetters_5]
    exact (PF.ite (fun _ => (PF.ret1 h)) (fun _ => (PF.ite (fun _ => (PF.bnd (wy_X4_takeByte (by omega) h) (fun q1 hq1 => (PF.ite (fun _ => (wy_X4_takeLetters_38 ih (by omega) hq1)) (fun _ => (PF.ite (fun _ => (wy_X4_takeLetters_45 ih hq1)) (fun _ => (wy_X4_takeLetters_38 ih (by omega) hq1)))))))) (fun _ => (PF.ret1 h)))))
theorem wy_X4_takeLetters {s : ST} {b : Nat} {t : Nat} {p0 : Int32} {p1 : Int32} {σ : ST}  (h_b : (b = 20 ∨ 62 ≤ b)) (h : KYA s σ) : PF st1 (KYA s) (f_X4_takeLetters b t p0 p1 σ) := by
  unfold f_X4_takeLetters
  exact (wy_X4_takeLetters_5 (by omega) _ _ _ _ _ _ h)
theorem wy_X4_takePlain {s : ST} {b : Nat} {t : Nat} {p0 : Int32} {p1 : Int32} {p2 : Int32} {p3 : Int32} {σ : ST}  (h_b : (b = 20 ∨ 62 ≤ b)) (h_t : (t = 20 ∨ 62 ≤ t)) (h : KYA s σ) : PF st0 (KYA s) (f_X4_takePlain b t p0 p1 p2 p3 σ) := by
  unfold f_X4_takePlain
  exact (PF.ite (fun _ => (PF.bnd (wy_X4_takeByte (by omega) h) (fun q6 hq6 => (PF.ite (fun _ => (wy_X4_takePlain_137 (by omega) (by omega) hq6)) (fun _ => (PF.bnd (wy_X4_fail (by omega) hq6) (fun q8 hq8 => (wy_X4_takePlain_137 (by omega) (by omega) hq8)))))))) (fun _ => (PF.ite (fun _ => (PF.bnd (wy_X4_takeNumber (by omega) h) (fun q10 hq10 => (PF.ite (fun _ => (PF.bnd (wy_X10_isInt  hq10) (fun q12 hq12 => (PF.ite (fun _ => (PF.bnd (wy_X4_fail (by omega) hq12) (fun q14 hq14 => (wy_X4_takePlain_137 (by omega) (by omega) hq14)))) (fun _ => (wy_X4_takePlain_137 (by omega) (by omega) hq12)))))) (fun _ => (wy_X4_takePlain_137 (by omega) (by omega) hq10)))))) (fun _ => (PF.ite (fun _ => (PF.bnd (wy_X4_takeNumber (by omega) h) (fun q16 hq16 => (PF.ite (fun _ => (PF.bnd (wy_X10_isInt  hq16) (fun q18 hq18 => (PF.ite (fun _ => (PF.bnd (wy_X4_fail (by omega) hq18) (fun q20 hq20 => (wy_X4_takePlain_137 (by omega) (by omega) hq20)))) (fun _ => (wy_X4_takePlain_137 (by omega) (by omega) hq18)))))) (fun _ => (wy_X4_takePlain_137 (by omega) (by omega) hq16)))))) (fun _ => (PF.ite (fun _ => (PF.bnd (wy_X4_takeReal (by omega) h) (fun q22 hq22 => (wy_X4_takePlain_137 (by omega) (by omega) hq22)))) (fun _ => (PF.ite (fun _ => (PF.bnd (wy_X4_takeCount (by omega) h) (fun q24 hq24 => (PF.bnd (wy_X4_takeLetters (by omega) hq24) (fun q26 hq26 => (wy_X4_takePlain_137 (by omega) (by omega) hq26)))))) (fun _ => (wy_X4_takePlain_137 (by omega) (by omega) h)))))))))))
theorem wy_X4_takeOwn_26 {s : ST} {r_X4_take : Nat → Nat → Int32 → Int32 → Int32 → Int32 → Int32 → ST → Option (ST)} {r_X4_takeField : Nat → Nat → Int32 → Int32 → Int32 → Int32 → Int32 → ST → Option (ST)} {r_X4_takeList : Nat → Nat → Int32 → Int32 → Int32 → Int32 → Int32 → ST → Option (ST)} {r_X4_takeOwn : Nat → Nat → Int32 → Int32 → Int32 → Int32 → Int32 → ST → Option (ST)} {r_X4_takeRecord : Nat → Nat → Int32 → Int32 → Int32 → Int32 → Int32 → ST → Option (ST)} {b : Nat} {t : Nat} {x1 : Int32} {x3 : Int32} {x4 : Int32} {x5 : Int32} {y0 : Int32} {σ : ST} (h_r_X4_take : ∀ (x1 : Nat) (x2 : Nat) (x3 : Int32) (x4 : Int32) (x5 : Int32) (x6 : Int32) (x7 : Int32) (σ : ST), (x1 = 20 ∨ 62 ≤ x1) → (x2 = 20 ∨ 62 ≤ x2) → KYA s σ → PF st0 (KYA s) (r_X4_take x1 x2 x3 x4 x5 x6 x7 σ)) (h_r_X4_takeField : ∀ (x1 : Nat) (x2 : Nat) (x3 : Int32) (x4 : Int32) (x5 : Int32) (x6 : Int32) (x7 : Int32) (σ : ST), (x1 = 20 ∨ 62 ≤ x1) → (x2 = 20 ∨ 62 ≤ x2) → KYA s σ → PF st0 (KYA s) (r_X4_takeField x1 x2 x3 x4 x5 x6 x7 σ)) (h_r_X4_takeList : ∀ (x1 : Nat) (x2 : Nat) (x3 : Int32) (x4 : Int32) (x5 : Int32) (x6 : Int32) (x7 : Int32) (σ : ST), (x1 = 20 ∨ 62 ≤ x1) → (x2 = 20 ∨ 62 ≤ x2) → KYA s σ → PF st0 (KYA s) (r_X4_takeList x1 x2 x3 x4 x5 x6 x7 σ)) (h_r_X4_takeOwn : ∀ (x1 : Nat) (x2 : Nat) (x3 : Int32) (x4 : Int32) (x5 : Int32) (x6 : Int32) (x7 : Int32) (σ : ST), (x1 = 20 ∨ 62 ≤ x1) → (x2 = 20 ∨ 62 ≤ x2) → KYA s σ → PF st0 (KYA s) (r_X4_takeOwn x1 x2 x3 x4 x5 x6 x7 σ)) (h_r_X4_takeRecord : ∀ (x1 : Nat) (x2 : Nat) (x3 : Int32) (x4 : Int32) (x5 : Int32) (x6 : Int32) (x7 : Int32) (σ : ST), (x1 = 20 ∨ 62 ≤ x1) → (x2 = 20 ∨ 62 ≤ x2) → KYA s σ → PF st0 (KYA s) (r_X4_takeRecord x1 x2 x3 x4 x5 x6 x7 σ)) (h_b : (b = 20 ∨ 62 ≤ b)) (h_t : (t = 20 ∨ 62 ≤ t)) (h : KYA s σ) : PF st0 (KYA s) (f_X4_takeOwn_26 r_X4_take r_X4_takeField r_X4_takeList r_X4_takeOwn r_X4_takeRecord b t x1 x3 x4 x5 y0 σ) := by
  unfold f_X4_takeOwn_26
  exact (PF.bnd (wy_X5_sortOf  h) (fun q1 hq1 => (PF.ite (fun _ => (PF.bnd (wy_X5_innerOf  hq1) (fun q9 hq9 => (PF.bnd (h_r_X4_takeRecord _ _ _ _ _ _ _ _ (by omega) (by omega) hq9) (fun q11 hq11 => (PF.ret0 hq11)))))) (fun _ => (PF.ite (fun _ => (PF.bnd (wy_X5_innerOf  hq1) (fun q5 hq5 => (PF.bnd (h_r_X4_takeList _ _ _ _ _ _ _ _ (by omega) (by omega) hq5) (fun q7 hq7 => (PF.ret0 hq7)))))) (fun _ => (PF.bnd (wy_X4_takePlain (by omega) (by omega) hq1) (fun q3 hq3 => (PF.ret0 hq3)))))))))
theorem wy_X4_takeOwn {s : ST} {r_X4_take : Nat → Nat → Int32 → Int32 → Int32 → Int32 → Int32 → ST → Option (ST)} {r_X4_takeField : Nat → Nat → Int32 → Int32 → Int32 → Int32 → Int32 → ST → Option (ST)} {r_X4_takeList : Nat → Nat → Int32 → Int32 → Int32 → Int32 → Int32 → ST → Option (ST)} {r_X4_takeOwn : Nat → Nat → Int32 → Int32 → Int32 → Int32 → Int32 → ST → Option (ST)} {r_X4_takeRecord : Nat → Nat → Int32 → Int32 → Int32 → Int32 → Int32 → ST → Option (ST)} {b : Nat} {t : Nat} {p0 : Int32} {p1 : Int32} {p2 : Int32} {p3 : Int32} {p4 : Int32} {σ : ST} (h_r_X4_take : ∀ (x1 : Nat) (x2 : Nat) (x3 : Int32) (x4 : Int32) (x5 : Int32) (x6 : Int32) (x7 : Int32) (σ : ST), (x1 = 20 ∨ 62 ≤ x1) → (x2 = 20 ∨ 62 ≤ x2) → KYA s σ → PF st0 (KYA s) (r_X4_take x1 x2 x3 x4 x5 x6 x7 σ)) (h_r_X4_takeField : ∀ (x1 : Nat) (x2 : Nat) (x3 : Int32) (x4 : Int32) (x5 : Int32) (x6 : Int32) (x7 : Int32) (σ : ST), (x1 = 20 ∨ 62 ≤ x1) → (x2 = 20 ∨ 62 ≤ x2) → KYA s σ → PF st0 (KYA s) (r_X4_takeField x1 x2 x3 x4 x5 x6 x7 σ)) (h_r_X4_takeList : ∀ (x1 : Nat) (x2 : Nat) (x3 : Int32) (x4 : Int32) (x5 : Int32) (x6 : Int32) (x7 : Int32) (σ : ST), (x1 = 20 ∨ 62 ≤ x1) → (x2 = 20 ∨ 62 ≤ x2) → KYA s σ → PF st0 (KYA s) (r_X4_takeList x1 x2 x3 x4 x5 x6 x7 σ)) (h_r_X4_takeOwn : ∀ (x1 : Nat) (x2 : Nat) (x3 : Int32) (x4 : Int32) (x5 : Int32) (x6 : Int32) (x7 : Int32) (σ : ST), (x1 = 20 ∨ 62 ≤ x1) → (x2 = 20 ∨ 62 ≤ x2) → KYA s σ → PF st0 (KYA s) (r_X4_takeOwn x1 x2 x3 x4 x5 x6 x7 σ)) (h_r_X4_takeRecord : ∀ (x1 : Nat) (x2 : Nat) (x3 : Int32) (x4 : Int32) (x5 : Int32) (x6 : Int32) (x7 : Int32) (σ : ST), (x1 = 20 ∨ 62 ≤ x1) → (x2 = 20 ∨ 62 ≤ x2) → KYA s σ → PF st0 (KYA s) (r_X4_takeRecord x1 x2 x3 x4 x5 x6 x7 σ)) (h_b : (b = 20 ∨ 62 ≤ b)) (h_t : (t = 20 ∨ 62 ≤ t)) (h : KYA s σ) : PF st0 (KYA s) (f_X4_takeOwn r_X4_take r_X4_takeField r_X4_takeList r_X4_takeOwn r_X4_takeRecord b t p0 p1 p2 p3 p4 σ) := by
  unfold f_X4_takeOwn
  exact (PF.bnd (wy_X5_sortOf  h) (fun q1 hq1 => (PF.ite (fun _ => (PF.bnd (wy_X0_chosen  hq1) (fun q3 hq3 => (wy_X4_takeOwn_26 h_r_X4_take h_r_X4_takeField h_r_X4_takeList h_r_X4_takeOwn h_r_X4_takeRecord (by omega) (by omega) hq3)))) (fun _ => (wy_X4_takeOwn_26 h_r_X4_take h_r_X4_takeField h_r_X4_takeList h_r_X4_takeOwn h_r_X4_takeRecord (by omega) (by omega) hq1)))))
theorem wy_X4_findSources_56 {s : ST} {k3 : Int32 → Int32 → Int32 → Int32 → ST → Option (ST)} {b : Nat} {t : Nat} {x1 : Int32} {x2 : Int32} {x3 : Int32} {x4 : Int32} {σ : ST} (h_k3 : ∀ (x1 : Int32) (x2 : Int32) (x3 : Int32) (x4 : Int32) (σ : ST), KYA s σ → PF st0 (KYA s) (k3 x1 x2 x3 x4 σ))  (h : KYA s σ) : PF st0 (KYA s) (f_X4_findSources_56 k3 b t x1 x2 x3 x4 σ) := by
  unfold f_X4_findSources_56
  exact (h_k3 _ _ _ _ _ h)
theorem wy_X4_findSources_3 {s : ST} {b : Nat} {t : Nat}  (h_b : (b = 20 ∨ 62 ≤ b)) : ∀ (n : Nat) (x1 : Int32) (x2 : Int32) (x3 : Int32) (x4 : Int32) (σ : ST), KYA s σ → PF st0 (KYA s) (f_X4_findSources_3 b t n x1 x2 x3 x4 σ) := by
  intro n
  induction n with
  | zero => intro x1 x2 x3 x4 σ h; rw [f_X4_findSources_3]; exact PF.none
  | succ n ih =>
    intro x1 x2 x3 x4 σ h
    rw [f_X4_findSources_3]
    exact (PF.bnd (wy_X5_fieldsOf  h) (fun q1 hq1 => (PF.ite (fun _ => (PF.ret0 hq1)) (fun _ => (PF.ite (fun _ => (wy_X4_findSources_56 ih hq1)) (fun _ => (PF.ite (fun _ => (wy_X4_findSources_56 ih hq1)) (fun _ => (PF.ite (fun _ => (wy_X4_findSources_56 ih hq1)) (fun _ => (PF.bnd (wy_X5_sourceOf  hq1) (fun q3 hq3 => (PF.ite (fun _ => (wy_X4_findSources_56 ih (KYA.i (by omega) hq3))) (fun _ => PF.none))))))))))))))
theorem wy_X4_findSources {s : ST} {b : Nat} {t : Nat} {p0 : Int32} {p1 : Int32} {p2 : Int32} {σ : ST}  (h_b : (b = 20 ∨ 62 ≤ b)) (h : KYA s σ) : PF st0 (KYA s) (f_X4_findSources b t p0 p1 p2 σ) := by
  unfold f_X4_findSources
  exact (wy_X4_findSources_3 (by omega) _ _ _ _ _ _ h)
theorem wy_X5_firstChoice {s : ST} {b : Nat} {p0 : Int32} {σ : ST}   (h : KYA s σ) : PF st1 (KYA s) (f_X5_firstChoice b p0 σ) := by
  unfold f_X5_firstChoice
  exact (PF.bnd (wy_X5_sortOf  h) (fun q1 hq1 => (PF.ite (fun _ => (PF.bnd (wy_X5_innerOf  hq1) (fun q3 hq3 => (PF.ret1 hq3)))) (fun _ => (PF.ret1 hq1)))))
theorem wy_X5_elseWorth {s : ST} {b : Nat} {p0 : Int32} {p1 : Int32} {σ : ST}   (h : KYA s σ) : PF st1 (KYA s) (f_X5_elseWorth b p0 p1 σ) := by
  unfold f_X5_elseWorth
  exact (PF.bnd (wy_X5_isFieldOf  h) (fun q1 hq1 => (PF.ite (fun _ => (PF.ret1 hq1)) (fun _ => (PF.ite (fun _ => (PF.ret1 hq1)) (fun _ => PF.none))))))
theorem wy_X7_setFilled {s : ST} {b : Nat} {p0 : Int32} {σ : ST}  (h_b : (b = 20 ∨ 62 ≤ b)) (h : KYA s σ) : PF st0 (KYA s) (f_X7_setFilled b p0 σ) := by
  unfold f_X7_setFilled
  exact (PF.bnd (wy_X7_isRow  h) (fun q1 hq1 => (PF.ite (fun _ => (PF.ret0 hq1)) (fun _ => (PF.ite (fun _ => (PF.ret0 (KYA.i (by omega) hq1))) (fun _ => PF.none))))))
theorem wy_X4_fillIn_51 {s : ST} {b : Nat} {t : Nat} {x2 : Int32} {x3 : Int32} {x4 : Int32} {x5 : Int64} {y0 : Int32} {σ : ST}  (h_b : (b = 20 ∨ 62 ≤ b)) (h_t : (t = 20 ∨ 62 ≤ t)) (h : KYA s σ) : PF st0 (KYA s) (f_X4_fillIn_51 b t x2 x3 x4 x5 y0 σ) := by
  unfold f_X4_fillIn_51
  exact (PF.ite (fun _ => (PF.bnd (wy_X4_addNode (by omega) (by omega) h) (fun q2 hq2 => (PF.bnd (wy_X7_setFilled (by omega) hq2) (fun q4 hq4 => (PF.ret0 hq4)))))) (fun _ => PF.none))
theorem wy_X4_fillIn {s : ST} {b : Nat} {t : Nat} {p0 : Int32} {p1 : Int32} {p2 : Int32} {σ : ST}  (h_b : (b = 20 ∨ 62 ≤ b)) (h_t : (t = 20 ∨ 62 ≤ t)) (h : KYA s σ) : PF st0 (KYA s) (f_X4_fillIn b t p0 p1 p2 σ) := by
  unfold f_X4_fillIn
  exact (PF.bnd (wy_X5_typeOf  h) (fun q1 hq1 => (PF.bnd (wy_X5_firstChoice  hq1) (fun q3 hq3 => (PF.bnd (wy_X5_elseWorth  hq3) (fun q5 hq5 => (PF.bnd (wy_X5_sortOf  hq5) (fun q7 hq7 => (PF.ite (fun _ => (PF.bnd (wy_X10_lettersIn  hq7) (fun q9 hq9 => (wy_X4_fillIn_51 (by omega) (by omega) hq9)))) (fun _ => (wy_X4_fillIn_51 (by omega) (by omega) hq7)))))))))))
theorem wy_X4_takeRecord_155 {s : ST} {r_X4_take : Nat → Nat → Int32 → Int32 → Int32 → Int32 → Int32 → ST → Option (ST)} {r_X4_takeField : Nat → Nat → Int32 → Int32 → Int32 → Int32 → Int32 → ST → Option (ST)} {r_X4_takeList : Nat → Nat → Int32 → Int32 → Int32 → Int32 → Int32 → ST → Option (ST)} {r_X4_takeOwn : Nat → Nat → Int32 → Int32 → Int32 → Int32 → Int32 → ST → Option (ST)} {r_X4_takeRecord : Nat → Nat → Int32 → Int32 → Int32 → Int32 → Int32 → ST → Option (ST)} {k112 : Int32 → Int32 → Int32 → Int32 → ST → Option (ST)} {b : Nat} {t : Nat} {x5 : Int32} {x6 : Int32} {x7 : Int32} {x8 : Int32} {σ : ST} (h_r_X4_take : ∀ (x1 : Nat) (x2 : Nat) (x3 : Int32) (x4 : Int32) (x5 : Int32) (x6 : Int32) (x7 : Int32) (σ : ST), (x1 = 20 ∨ 62 ≤ x1) → (x2 = 20 ∨ 62 ≤ x2) → KYA s σ → PF st0 (KYA s) (r_X4_take x1 x2 x3 x4 x5 x6 x7 σ)) (h_r_X4_takeField : ∀ (x1 : Nat) (x2 : Nat) (x3 : Int32) (x4 : Int32) (x5 : Int32) (x6 : Int32) (x7 : Int32) (σ : ST), (x1 = 20 ∨ 62 ≤ x1) → (x2 = 20 ∨ 62 ≤ x2) → KYA s σ → PF st0 (KYA s) (r_X4_takeField x1 x2 x3 x4 x5 x6 x7 σ)) (h_r_X4_takeList : ∀ (x1 : Nat) (x2 : Nat) (x3 : Int32) (x4 : Int32) (x5 : Int32) (x6 : Int32) (x7 : Int32) (σ : ST), (x1 = 20 ∨ 62 ≤ x1) → (x2 = 20 ∨ 62 ≤ x2) → KYA s σ → PF st0 (KYA s) (r_X4_takeList x1 x2 x3 x4 x5 x6 x7 σ)) (h_r_X4_takeOwn : ∀ (x1 : Nat) (x2 : Nat) (x3 : Int32) (x4 : Int32) (x5 : Int32) (x6 : Int32) (x7 : Int32) (σ : ST), (x1 = 20 ∨ 62 ≤ x1) → (x2 = 20 ∨ 62 ≤ x2) → KYA s σ → PF st0 (KYA s) (r_X4_takeOwn x1 x2 x3 x4 x5 x6 x7 σ)) (h_r_X4_takeRecord : ∀ (x1 : Nat) (x2 : Nat) (x3 : Int32) (x4 : Int32) (x5 : Int32) (x6 : Int32) (x7 : Int32) (σ : ST), (x1 = 20 ∨ 62 ≤ x1) → (x2 = 20 ∨ 62 ≤ x2) → KYA s σ → PF st0 (KYA s) (r_X4_takeRecord x1 x2 x3 x4 x5 x6 x7 σ)) (h_k112 : ∀ (x1 : Int32) (x2 : Int32) (x3 : Int32) (x4 : Int32) (σ : ST), KYA s σ → PF st0 (KYA s) (k112 x1 x2 x3 x4 σ))  (h : KYA s σ) : PF st0 (KYA s) (f_X4_takeRecord_155 r_X4_take r_X4_takeField r_X4_takeList r_X4_takeOwn r_X4_takeRecord k112 b t x5 x6 x7 x8 σ) := by
  unfold f_X4_takeRecord_155
  exact (h_k112 _ _ _ _ _ h)
theorem wy_X4_takeRecord_112 {s : ST} {r_X4_take : Nat → Nat → Int32 → Int32 → Int32 → Int32 → Int32 → ST → Option (ST)} {r_X4_takeField : Nat → Nat → Int32 → Int32 → Int32 → Int32 → Int32 → ST → Option (ST)} {r_X4_takeList : Nat → Nat → Int32 → Int32 → Int32 → Int32 → Int32 → ST → Option (ST)} {r_X4_takeOwn : Nat → Nat → Int32 → Int32 → Int32 → Int32 → Int32 → ST → Option (ST)} {r_X4_takeRecord : Nat → Nat → Int32 → Int32 → Int32 → Int32 → Int32 → ST → Option (ST)} {b : Nat} {t : Nat} (h_r_X4_take : ∀ (x1 : Nat) (x2 : Nat) (x3 : Int32) (x4 : Int32) (x5 : Int32) (x6 : Int32) (x7 : Int32) (σ : ST), (x1 = 20 ∨ 62 ≤ x1) → (x2 = 20 ∨ 62 ≤ x2) → KYA s σ → PF st0 (KYA s) (r_X4_take x1 x2 x3 x4 x5 x6 x7 σ)) (h_r_X4_takeField : ∀ (x1 : Nat) (x2 : Nat) (x3 : Int32) (x4 : Int32) (x5 : Int32) (x6 : Int32) (x7 : Int32) (σ : ST), (x1 = 20 ∨ 62 ≤ x1) → (x2 = 20 ∨ 62 ≤ x2) → KYA s σ → PF st0 (KYA s) (r_X4_takeField x1 x2 x3 x4 x5 x6 x7 σ)) (h_r_X4_takeList : ∀ (x1 : Nat) (x2 : Nat) (x3 : Int32) (x4 : Int32) (x5 : Int32) (x6 : Int32) (x7 : Int32) (σ : ST), (x1 = 20 ∨ 62 ≤ x1) → (x2 = 20 ∨ 62 ≤ x2) → KYA s σ → PF st0 (KYA s) (r_X4_takeList x1 x2 x3 x4 x5 x6 x7 σ)) (h_r_X4_takeOwn : ∀ (x1 : Nat) (x2 : Nat) (x3 : Int32) (x4 : Int32) (x5 : Int32) (x6 : Int32) (x7 : Int32) (σ : ST), (x1 = 20 ∨ 62 ≤ x1) → (x2 = 20 ∨ 62 ≤ x2) → KYA s σ → PF st0 (KYA s) (r_X4_takeOwn x1 x2 x3 x4 x5 x6 x7 σ)) (h_r_X4_takeRecord : ∀ (x1 : Nat) (x2 : Nat) (x3 : Int32) (x4 : Int32) (x5 : Int32) (x6 : Int32) (x7 : Int32) (σ : ST), (x1 = 20 ∨ 62 ≤ x1) → (x2 = 20 ∨ 62 ≤ x2) → KYA s σ → PF st0 (KYA s) (r_X4_takeRecord x1 x2 x3 x4 x5 x6 x7 σ)) (h_b : (b = 20 ∨ 62 ≤ b)) (h_t : (t = 20 ∨ 62 ≤ t)) : ∀ (n : Nat) (x1 : Int32) (x2 : Int32) (x3 : Int32) (x4 : Int32) (σ : ST), KYA s σ → PF st0 (KYA s) (f_X4_takeRecord_112 r_X4_take r_X4_takeField r_X4_takeList r_X4_takeOwn r_X4_takeRecord b t n x1 x2 x3 x4 σ) := by
  intro n
  induction n with
  | zero => intro x1 x2 x3 x4 σ h; rw [f_X4_takeRecord_112]; exact PF.none
  | succ n ih =>
    intro x1 x2 x3 x4 σ h
    rw [f_X4_takeRecord_112]
    exact (PF.bnd (wy_X5_fieldsOf  h) (fun q1 hq1 => (PF.ite (fun _ => (PF.ret0 hq1)) (fun _ => (PF.ite (fun _ => (PF.bnd (wy_X4_sourceAt  hq1) (fun q3 hq3 => (PF.ite (fun _ => (PF.bnd (wy_X4_fillIn (by omega) (by omega) hq3) (fun q5 hq5 => (wy_X4_takeRecord_155 h_r_X4_take h_r_X4_takeField h_r_X4_takeList h_r_X4_takeOwn h_r_X4_takeRecord ih hq5)))) (fun _ => (wy_X4_takeRecord_155 h_r_X4_take h_r_X4_takeField h_r_X4_takeList h_r_X4_takeOwn h_r_X4_takeRecord ih hq3)))))) (fun _ => (PF.ret0 hq1)))))))
theorem wy_X4_takeRecord_109 {s : ST} {r_X4_take : Nat → Nat → Int32 → Int32 → Int32 → Int32 → Int32 → ST → Option (ST)} {r_X4_takeField : Nat → Nat → Int32 → Int32 → Int32 → Int32 → Int32 → ST → Option (ST)} {r_X4_takeList : Nat → Nat → Int32 → Int32 → Int32 → Int32 → Int32 → ST → Option (ST)} {r_X4_takeOwn : Nat → Nat → Int32 → Int32 → Int32 → Int32 → Int32 → ST → Option (ST)} {r_X4_takeRecord : Nat → Nat → Int32 → Int32 → Int32 → Int32 → Int32 → ST → Option (ST)} {b : Nat} {t : Nat} {x5 : Int32} {x6 : Int32} {x7 : Int32} {σ : ST} (h_r_X4_take : ∀ (x1 : Nat) (x2 : Nat) (x3 : Int32) (x4 : Int32) (x5 : Int32) (x6 : Int32) (x7 : Int32) (σ : ST), (x1 = 20 ∨ 62 ≤ x1) → (x2 = 20 ∨ 62 ≤ x2) → KYA s σ → PF st0 (KYA s) (r_X4_take x1 x2 x3 x4 x5 x6 x7 σ)) (h_r_X4_takeField : ∀ (x1 : Nat) (x2 : Nat) (x3 : Int32) (x4 : Int32) (x5 : Int32) (x6 : Int32) (x7 : Int32) (σ : ST), (x1 = 20 ∨ 62 ≤ x1) → (x2 = 20 ∨ 62 ≤ x2) → KYA s σ → PF st0 (KYA s) (r_X4_takeField x1 x2 x3 x4 x5 x6 x7 σ)) (h_r_X4_takeList : ∀ (x1 : Nat) (x2 : Nat) (x3 : Int32) (x4 : Int32) (x5 : Int32) (x6 : Int32) (x7 : Int32) (σ : ST), (x1 = 20 ∨ 62 ≤ x1) → (x2 = 20 ∨ 62 ≤ x2) → KYA s σ → PF st0 (KYA s) (r_X4_takeList x1 x2 x3 x4 x5 x6 x7 σ)) (h_r_X4_takeOwn : ∀ (x1 : Nat) (x2 : Nat) (x3 : Int32) (x4 : Int32) (x5 : Int32) (x6 : Int32) (x7 : Int32) (σ : ST), (x1 = 20 ∨ 62 ≤ x1) → (x2 = 20 ∨ 62 ≤ x2) → KYA s σ → PF st0 (KYA s) (r_X4_takeOwn x1 x2 x3 x4 x5 x6 x7 σ)) (h_r_X4_takeRecord : ∀ (x1 : Nat) (x2 : Nat) (x3 : Int32) (x4 : Int32) (x5 : Int32) (x6 : Int32) (x7 : Int32) (σ : ST), (x1 = 20 ∨ 62 ≤ x1) → (x2 = 20 ∨ 62 ≤ x2) → KYA s σ → PF st0 (KYA s) (r_X4_takeRecord x1 x2 x3 x4 x5 x6 x7 σ)) (h_b : (b = 20 ∨ 62 ≤ b)) (h_t : (t = 20 ∨ 62 ≤ t)) (h : KYA s σ) : PF st0 (KYA s) (f_X4_takeRecord_109 r_X4_take r_X4_takeField r_X4_takeList r_X4_takeOwn r_X4_takeRecord b t x5 x6 x7 σ) := by
  unfold f_X4_takeRecord_109
  exact (wy_X4_takeRecord_112 h_r_X4_take h_r_X4_takeField h_r_X4_takeList h_r_X4_takeOwn h_r_X4_takeRecord (by omega) (by omega) _ _ _ _ _ _ h)
theorem wy_X4_takeRecord_51 {s : ST} {r_X4_take : Nat → Nat → Int32 → Int32 → Int32 → Int32 → Int32 → ST → Option (ST)} {r_X4_takeField : Nat → Nat → Int32 → Int32 → Int32 → Int32 → Int32 → ST → Option (ST)} {r_X4_takeList : Nat → Nat → Int32 → Int32 → Int32 → Int32 → Int32 → ST → Option (ST)} {r_X4_takeOwn : Nat → Nat → Int32 → Int32 → Int32 → Int32 → Int32 → ST → Option (ST)} {r_X4_takeRecord : Nat → Nat → Int32 → Int32 → Int32 → Int32 → Int32 → ST → Option (ST)} {b : Nat} {t : Nat} (h_r_X4_take : ∀ (x1 : Nat) (x2 : Nat) (x3 : Int32) (x4 : Int32) (x5 : Int32) (x6 : Int32) (x7 : Int32) (σ : ST), (x1 = 20 ∨ 62 ≤ x1) → (x2 = 20 ∨ 62 ≤ x2) → KYA s σ → PF st0 (KYA s) (r_X4_take x1 x2 x3 x4 x5 x6 x7 σ)) (h_r_X4_takeField : ∀ (x1 : Nat) (x2 : Nat) (x3 : Int32) (x4 : Int32) (x5 : Int32) (x6 : Int32) (x7 : Int32) (σ : ST), (x1 = 20 ∨ 62 ≤ x1) → (x2 = 20 ∨ 62 ≤ x2) → KYA s σ → PF st0 (KYA s) (r_X4_takeField x1 x2 x3 x4 x5 x6 x7 σ)) (h_r_X4_takeList : ∀ (x1 : Nat) (x2 : Nat) (x3 : Int32) (x4 : Int32) (x5 : Int32) (x6 : Int32) (x7 : Int32) (σ : ST), (x1 = 20 ∨ 62 ≤ x1) → (x2 = 20 ∨ 62 ≤ x2) → KYA s σ → PF st0 (KYA s) (r_X4_takeList x1 x2 x3 x4 x5 x6 x7 σ)) (h_r_X4_takeOwn : ∀ (x1 : Nat) (x2 : Nat) (x3 : Int32) (x4 : Int32) (x5 : Int32) (x6 : Int32) (x7 : Int32) (σ : ST), (x1 = 20 ∨ 62 ≤ x1) → (x2 = 20 ∨ 62 ≤ x2) → KYA s σ → PF st0 (KYA s) (r_X4_takeOwn x1 x2 x3 x4 x5 x6 x7 σ)) (h_r_X4_takeRecord : ∀ (x1 : Nat) (x2 : Nat) (x3 : Int32) (x4 : Int32) (x5 : Int32) (x6 : Int32) (x7 : Int32) (σ : ST), (x1 = 20 ∨ 62 ≤ x1) → (x2 = 20 ∨ 62 ≤ x2) → KYA s σ → PF st0 (KYA s) (r_X4_takeRecord x1 x2 x3 x4 x5 x6 x7 σ)) (h_b : (b = 20 ∨ 62 ≤ b)) (h_t : (t = 20 ∨ 62 ≤ t)) : ∀ (n : Nat) (x1 : Int32) (x2 : Int32) (x3 : Int32) (x4 : Int32) (x5 : Int32) (σ : ST), KYA s σ → PF st0 (KYA s) (f_X4_takeRecord_51 r_X4_take r_X4_takeField r_X4_takeList r_X4_takeOwn r_X4_takeRecord b t n x1 x2 x3 x4 x5 σ) := by
  intro n
  induction n with
  | zero => intro x1 x2 x3 x4 x5 σ h; rw [f_X4_takeRecord_51]; exact PF.none
  | succ n ih =>
    intro x1 x2 x3 x4 x5 σ h
    rw [f_X4_takeRecord_51]
    exact (PF.bnd (wy_X5_fieldsOf  h) (fun q1 hq1 => (PF.ite (fun _ => (wy_X4_takeRecord_109 h_r_X4_take h_r_X4_takeField h_r_X4_takeList h_r_X4_takeOwn h_r_X4_takeRecord (by omega) (by omega) hq1)) (fun _ => (PF.ite (fun _ => (PF.bnd (wy_X4_step (by omega) hq1) (fun q3 hq3 => (PF.bnd (wy_X5_typeOf  hq3) (fun q5 hq5 => (PF.bnd (h_r_X4_takeField _ _ _ _ _ _ _ _ (by omega) (by omega) hq5) (fun q7 hq7 => (PF.bnd (wy_X4_stepBack (by omega) hq7) (fun q9 hq9 => (ih _ _ _ _ _ _ hq9)))))))))) (fun _ => (wy_X4_takeRecord_109 h_r_X4_take h_r_X4_takeField h_r_X4_takeList h_r_X4_takeOwn h_r_X4_takeRecord (by omega) (by omega) hq1)))))))
theorem wy_X4_takeRecord_17 {s : ST} {r_X4_take : Nat → Nat → Int32 → Int32 → Int32 → Int32 → Int32 → ST → Option (ST)} {r_X4_takeField : Nat → Nat → Int32 → Int32 → Int32 → Int32 → Int32 → ST → Option (ST)} {r_X4_takeList : Nat → Nat → Int32 → Int32 → Int32 → Int32 → Int32 → ST → Option (ST)} {r_X4_takeOwn : Nat → Nat → Int32 → Int32 → Int32 → Int32 → Int32 → ST → Option (ST)} {r_X4_takeRecord : Nat → Nat → Int32 → Int32 → Int32 → Int32 → Int32 → ST → Option (ST)} {b : Nat} {t : Nat} {x1 : Int32} {x2 : Int32} {x3 : Int32} {x4 : Int32} {x5 : Int32} {y0 : Int32} {σ : ST} (h_r_X4_take : ∀ (x1 : Nat) (x2 : Nat) (x3 : Int32) (x4 : Int32) (x5 : Int32) (x6 : Int32) (x7 : Int32) (σ : ST), (x1 = 20 ∨ 62 ≤ x1) → (x2 = 20 ∨ 62 ≤ x2) → KYA s σ → PF st0 (KYA s) (r_X4_take x1 x2 x3 x4 x5 x6 x7 σ)) (h_r_X4_takeField : ∀ (x1 : Nat) (x2 : Nat) (x3 : Int32) (x4 : Int32) (x5 : Int32) (x6 : Int32) (x7 : Int32) (σ : ST), (x1 = 20 ∨ 62 ≤ x1) → (x2 = 20 ∨ 62 ≤ x2) → KYA s σ → PF st0 (KYA s) (r_X4_takeField x1 x2 x3 x4 x5 x6 x7 σ)) (h_r_X4_takeList : ∀ (x1 : Nat) (x2 : Nat) (x3 : Int32) (x4 : Int32) (x5 : Int32) (x6 : Int32) (x7 : Int32) (σ : ST), (x1 = 20 ∨ 62 ≤ x1) → (x2 = 20 ∨ 62 ≤ x2) → KYA s σ → PF st0 (KYA s) (r_X4_takeList x1 x2 x3 x4 x5 x6 x7 σ)) (h_r_X4_takeOwn : ∀ (x1 : Nat) (x2 : Nat) (x3 : Int32) (x4 : Int32) (x5 : Int32) (x6 : Int32) (x7 : Int32) (σ : ST), (x1 = 20 ∨ 62 ≤ x1) → (x2 = 20 ∨ 62 ≤ x2) → KYA s σ → PF st0 (KYA s) (r_X4_takeOwn x1 x2 x3 x4 x5 x6 x7 σ)) (h_r_X4_takeRecord : ∀ (x1 : Nat) (x2 : Nat) (x3 : Int32) (x4 : Int32) (x5 : Int32) (x6 : Int32) (x7 : Int32) (σ : ST), (x1 = 20 ∨ 62 ≤ x1) → (x2 = 20 ∨ 62 ≤ x2) → KYA s σ → PF st0 (KYA s) (r_X4_takeRecord x1 x2 x3 x4 x5 x6 x7 σ)) (h_b : (b = 20 ∨ 62 ≤ b)) (h_t : (t = 20 ∨ 62 ≤ t)) (h : KYA s σ) : PF st0 (KYA s) (f_X4_takeRecord_17 r_X4_take r_X4_takeField r_X4_takeList r_X4_takeOwn r_X4_takeRecord b t x1 x2 x3 x4 x5 y0 σ) := by
  unfold f_X4_takeRecord_17
  exact (PF.bnd (wy_X5_fieldsOf  h) (fun q1 hq1 => (PF.bnd (wy_X4_addNode (by omega) (by omega) hq1) (fun q3 hq3 => (PF.bnd (wy_X4_findSources (by omega) hq3) (fun q5 hq5 => (wy_X4_takeRecord_51 h_r_X4_take h_r_X4_takeField h_r_X4_takeList h_r_X4_takeOwn h_r_X4_takeRecord (by omega) (by omega) _ _ _ _ _ _ _ hq5)))))))
theorem wy_X4_takeRecord {s : ST} {r_X4_take : Nat → Nat → Int32 → Int32 → Int32 → Int32 → Int32 → ST → Option (ST)} {r_X4_takeField : Nat → Nat → Int32 → Int32 → Int32 → Int32 → Int32 → ST → Option (ST)} {r_X4_takeList : Nat → Nat → Int32 → Int32 → Int32 → Int32 → Int32 → ST → Option (ST)} {r_X4_takeOwn : Nat → Nat → Int32 → Int32 → Int32 → Int32 → Int32 → ST → Option (ST)} {r_X4_takeRecord : Nat → Nat → Int32 → Int32 → Int32 → Int32 → Int32 → ST → Option (ST)} {b : Nat} {t : Nat} {p0 : Int32} {p1 : Int32} {p2 : Int32} {p3 : Int32} {p4 : Int32} {σ : ST} (h_r_X4_take : ∀ (x1 : Nat) (x2 : Nat) (x3 : Int32) (x4 : Int32) (x5 : Int32) (x6 : Int32) (x7 : Int32) (σ : ST), (x1 = 20 ∨ 62 ≤ x1) → (x2 = 20 ∨ 62 ≤ x2) → KYA s σ → PF st0 (KYA s) (r_X4_take x1 x2 x3 x4 x5 x6 x7 σ)) (h_r_X4_takeField : ∀ (x1 : Nat) (x2 : Nat) (x3 : Int32) (x4 : Int32) (x5 : Int32) (x6 : Int32) (x7 : Int32) (σ : ST), (x1 = 20 ∨ 62 ≤ x1) → (x2 = 20 ∨ 62 ≤ x2) → KYA s σ → PF st0 (KYA s) (r_X4_takeField x1 x2 x3 x4 x5 x6 x7 σ)) (h_r_X4_takeList : ∀ (x1 : Nat) (x2 : Nat) (x3 : Int32) (x4 : Int32) (x5 : Int32) (x6 : Int32) (x7 : Int32) (σ : ST), (x1 = 20 ∨ 62 ≤ x1) → (x2 = 20 ∨ 62 ≤ x2) → KYA s σ → PF st0 (KYA s) (r_X4_takeList x1 x2 x3 x4 x5 x6 x7 σ)) (h_r_X4_takeOwn : ∀ (x1 : Nat) (x2 : Nat) (x3 : Int32) (x4 : Int32) (x5 : Int32) (x6 : Int32) (x7 : Int32) (σ : ST), (x1 = 20 ∨ 62 ≤ x1) → (x2 = 20 ∨ 62 ≤ x2) → KYA s σ → PF st0 (KYA s) (r_X4_takeOwn x1 x2 x3 x4 x5 x6 x7 σ)) (h_r_X4_takeRecord : ∀ (x1 : Nat) (x2 : Nat) (x3 : Int32) (x4 : Int32) (x5 : Int32) (x6 : Int32) (x7 : Int32) (σ : ST), (x1 = 20 ∨ 62 ≤ x1) → (x2 = 20 ∨ 62 ≤ x2) → KYA s σ → PF st0 (KYA s) (r_X4_takeRecord x1 x2 x3 x4 x5 x6 x7 σ)) (h_b : (b = 20 ∨ 62 ≤ b)) (h_t : (t = 20 ∨ 62 ≤ t)) (h : KYA s σ) : PF st0 (KYA s) (f_X4_takeRecord r_X4_take r_X4_takeField r_X4_takeList r_X4_takeOwn r_X4_takeRecord b t p0 p1 p2 p3 p4 σ) := by
  unfold f_X4_takeRecord
  exact (PF.ite (fun _ => (wy_X4_takeRecord_17 h_r_X4_take h_r_X4_takeField h_r_X4_takeList h_r_X4_takeOwn h_r_X4_takeRecord (by omega) (by omega) h)) (fun _ => (PF.bnd (wy_X5_innerOf  h) (fun q1 hq1 => (wy_X4_takeRecord_17 h_r_X4_take h_r_X4_takeField h_r_X4_takeList h_r_X4_takeOwn h_r_X4_takeRecord (by omega) (by omega) hq1)))))
theorem wyR_X4_take {s : ST} : ∀ n : Nat, (∀ (b : Nat) (t : Nat) (p0 : Int32) (p1 : Int32) (p2 : Int32) (p3 : Int32) (p4 : Int32) (σ : ST), (b = 20 ∨ 62 ≤ b) → (t = 20 ∨ 62 ≤ t) → KYA s σ → PF st0 (KYA s) ((R_X4_take n).1 b t p0 p1 p2 p3 p4 σ)) ∧ (∀ (b : Nat) (t : Nat) (p0 : Int32) (p1 : Int32) (p2 : Int32) (p3 : Int32) (p4 : Int32) (σ : ST), (b = 20 ∨ 62 ≤ b) → (t = 20 ∨ 62 ≤ t) → KYA s σ → PF st0 (KYA s) ((R_X4_take n).2.1 b t p0 p1 p2 p3 p4 σ)) ∧ (∀ (b : Nat) (t : Nat) (p0 : Int32) (p1 : Int32) (p2 : Int32) (p3 : Int32) (p4 : Int32) (σ : ST), (b = 20 ∨ 62 ≤ b) → (t = 20 ∨ 62 ≤ t) → KYA s σ → PF st0 (KYA s) ((R_X4_take n).2.2.1 b t p0 p1 p2 p3 p4 σ)) ∧ (∀ (b : Nat) (t : Nat) (p0 : Int32) (p1 : Int32) (p2 : Int32) (p3 : Int32) (p4 : Int32) (σ : ST), (b = 20 ∨ 62 ≤ b) → (t = 20 ∨ 62 ≤ t) → KYA s σ → PF st0 (KYA s) ((R_X4_take n).2.2.2.1 b t p0 p1 p2 p3 p4 σ)) ∧ (∀ (b : Nat) (t : Nat) (p0 : Int32) (p1 : Int32) (p2 : Int32) (p3 : Int32) (p4 : Int32) (σ : ST), (b = 20 ∨ 62 ≤ b) → (t = 20 ∨ 62 ≤ t) → KYA s σ → PF st0 (KYA s) ((R_X4_take n).2.2.2.2 b t p0 p1 p2 p3 p4 σ)) := by
  intro n
  induction n with
  | zero => exact ⟨fun _ _ _ _ _ _ _ _ _ _ _ => PF.none, fun _ _ _ _ _ _ _ _ _ _ _ => PF.none, fun _ _ _ _ _ _ _ _ _ _ _ => PF.none, fun _ _ _ _ _ _ _ _ _ _ _ => PF.none, fun _ _ _ _ _ _ _ _ _ _ _ => PF.none⟩
  | succ n ih => exact ⟨fun _ _ _ _ _ _ _ _ h_b h_t h => wy_X4_take (ih.1) (ih.2.1) (ih.2.2.1) (ih.2.2.2.1) (ih.2.2.2.2) h_b h_t h, fun _ _ _ _ _ _ _ _ h_b h_t h => wy_X4_takeField (ih.1) (ih.2.1) (ih.2.2.1) (ih.2.2.2.1) (ih.2.2.2.2) h_b h_t h, fun _ _ _ _ _ _ _ _ h_b h_t h => wy_X4_takeList (ih.1) (ih.2.1) (ih.2.2.1) (ih.2.2.2.1) (ih.2.2.2.2) h_b h_t h, fun _ _ _ _ _ _ _ _ h_b h_t h => wy_X4_takeOwn (ih.1) (ih.2.1) (ih.2.2.1) (ih.2.2.2.1) (ih.2.2.2.2) h_b h_t h, fun _ _ _ _ _ _ _ _ h_b h_t h => wy_X4_takeRecord (ih.1) (ih.2.1) (ih.2.2.1) (ih.2.2.2.1) (ih.2.2.2.2) h_b h_t h⟩
theorem wy_T_X4_take {s : ST} {b : Nat} {t : Nat} {p0 : Int32} {p1 : Int32} {p2 : Int32} {p3 : Int32} {p4 : Int32} {σ : ST} (h_b : (b = 20 ∨ 62 ≤ b)) (h_t : (t = 20 ∨ 62 ≤ t)) (h : KYA s σ) : PF st0 (KYA s) (f_T_X4_take b t p0 p1 p2 p3 p4 σ) := (wyR_X4_take FR).1 _ _ _ _ _ _ _ _ h_b h_t h
theorem wy_X7_firstOf {s : ST} {b : Nat} {p0 : Int32} {σ : ST}   (h : KYA s σ) : PF st1 (KYA s) (f_X7_firstOf b p0 σ) := by
  unfold f_X7_firstOf
  exact (PF.bnd (wy_X7_isRow  h) (fun q1 hq1 => (PF.ite (fun _ => (PF.ret1 hq1)) (fun _ => (PF.ite (fun _ => (PF.ret1 hq1)) (fun _ => PF.none))))))
theorem wy_X7_nextOf {s : ST} {b : Nat} {p0 : Int32} {σ : ST}   (h : KYA s σ) : PF st1 (KYA s) (f_X7_nextOf b p0 σ) := by
  unfold f_X7_nextOf
  exact (PF.bnd (wy_X7_isRow  h) (fun q1 hq1 => (PF.ite (fun _ => (PF.ret1 hq1)) (fun _ => (PF.ite (fun _ => (PF.ret1 hq1)) (fun _ => PF.none))))))
theorem wy_X7_rowBehind_51 {s : ST} {b : Nat} {x2 : Int32} {σ : ST}   (h : KYA s σ) : PF st1 (KYA s) (f_X7_rowBehind_51 b x2 σ) := by
  unfold f_X7_rowBehind_51
  exact (PF.bnd (wy_X7_nextOf  h) (fun q1 hq1 => (PF.ret1 hq1)))
theorem wy_X7_rowBehind_19 {s : ST} {b : Nat}   : ∀ (n : Nat) (x1 : Int32) (x2 : Int32) (σ : ST), KYA s σ → PF st1 (KYA s) (f_X7_rowBehind_19 b n x1 x2 σ) := by
  intro n
  induction n with
  | zero => intro x1 x2 σ h; rw [f_X7_rowBehind_19]; exact PF.none
  | succ n ih =>
    intro x1 x2 σ h
    rw [f_X7_rowBehind_19]
    exact (PF.ite (fun _ => (wy_X7_rowBehind_51  h)) (fun _ => (PF.ite (fun _ => (wy_X7_rowBehind_51  h)) (fun _ => (PF.bnd (wy_X7_nextOf  h) (fun q1 hq1 => (PF.ite (fun _ => (PF.bnd (wy_X7_parentOf  hq1) (fun q3 hq3 => (ih _ _ _ hq3)))) (fun _ => (wy_X7_rowBehind_51  hq1)))))))))
theorem wy_X7_rowBehind {s : ST} {b : Nat} {p0 : Int32} {σ : ST}   (h : KYA s σ) : PF st1 (KYA s) (f_X7_rowBehind b p0 σ) := by
  unfold f_X7_rowBehind
  exact (PF.bnd (wy_X7_firstOf  h) (fun q1 hq1 => (PF.ite (fun _ => (wy_X7_rowBehind_19  _ _ _ _ hq1)) (fun _ => (PF.bnd (wy_X7_firstOf  hq1) (fun q3 hq3 => (PF.ret1 hq3)))))))
theorem wy_X7_putInOrder_4 {s : ST} {b : Nat}  (h_b : (b = 20 ∨ 62 ≤ b)) : ∀ (n : Nat) (x1 : Int32) (x2 : Int32) (σ : ST), KYA s σ → PF st0 (KYA s) (f_X7_putInOrder_4 b n x1 x2 σ) := by
  intro n
  induction n with
  | zero => intro x1 x2 σ h; rw [f_X7_putInOrder_4]; exact PF.none
  | succ n ih =>
    intro x1 x2 σ h
    rw [f_X7_putInOrder_4]
    exact (PF.ite (fun _ => (PF.ret0 h)) (fun _ => (PF.bnd (wy_X7_isRow  h) (fun q1 hq1 => (PF.ite (fun _ => (PF.ret0 hq1)) (fun _ => (PF.ite (fun _ => (PF.ite (fun _ => (PF.bnd (wy_X7_rowBehind  (KYA.i (by omega) (KYA.i (by omega) hq1))) (fun q5 hq5 => (ih _ _ _ hq5)))) (fun _ => PF.none))) (fun _ => PF.none))))))))
theorem wy_X7_putInOrder {s : ST} {b : Nat} {σ : ST}  (h_b : (b = 20 ∨ 62 ≤ b)) (h : KYA s σ) : PF st0 (KYA s) (f_X7_putInOrder b σ) := by
  unfold f_X7_putInOrder
  exact (wy_X7_putInOrder_4 (by omega) _ _ _ _ h)
theorem wy_X4_run_129 {s : ST} {b : Nat} {t : Nat} {σ : ST}  (h_t : (t = 20 ∨ 62 ≤ t)) (h : KYA s σ) : PF st1 (KYA s) (f_X4_run_129 b t σ) := by
  unfold f_X4_run_129
  exact (PF.ite (fun _ => (PF.ite (fun _ => (PF.bnd (wy_X7_putInOrder (by omega) h) (fun q2 hq2 => (PF.ite (fun _ => (PF.ret1 hq2)) (fun _ => PF.none))))) (fun _ => PF.none))) (fun _ => (PF.ite (fun _ => (PF.bnd (wy_X7_clear (by omega) h) (fun q6 hq6 => (PF.ret1 hq6)))) (fun _ => PF.none))))
theorem wy_X4_run {s : ST} {b : Nat} {t : Nat} {p0 : Int32} {p1 : Int32} {σ : ST}  (h_b : (b = 20 ∨ 62 ≤ b)) (h_t : (t = 20 ∨ 62 ≤ t)) (h : KYA s σ) : PF st1 (KYA s) (f_X4_run b t p0 p1 σ) := by
  unfold f_X4_run
  exact (PF.bnd (wy_X1_planOf  h) (fun q1 hq1 => (PF.ite (fun _ => (PF.bnd (wy_X7_clear (by omega) (KYA.r hq1)) (fun q4 hq4 => (PF.bnd (wy_X1_sizeOf  (KYA.i (by omega) (KYA.i (by omega) hq4))) (fun q6 hq6 => (PF.bnd (wy_X0_turnTo  (KYA.i (by omega) (KYA.i (by omega) (KYA.i (by omega) hq6)))) (fun q8 hq8 => (PF.bnd (wy_X0_rootsFit  hq8) (fun q10 hq10 => (PF.ite (fun _ => (PF.ret1 hq10)) (fun _ => (PF.bnd (wy_X5_rootType  hq10) (fun q12 hq12 => (PF.bnd (wy_X5_rootType  hq12) (fun q14 hq14 => (PF.bnd (wy_T_X4_take (by omega) (by omega) hq14) (fun q16 hq16 => (PF.ite (fun _ => (PF.ite (fun _ => (wy_X4_run_129 (by omega) hq16)) (fun _ => (PF.bnd (wy_X4_fail (by omega) hq16) (fun q18 hq18 => (wy_X4_run_129 (by omega) hq18)))))) (fun _ => (wy_X4_run_129 (by omega) hq16)))))))))))))))))))) (fun _ => PF.none))))
theorem wy_X7_isLike_15 {s : ST} {b : Nat} {t : Nat}   : ∀ (n : Nat) (x1 : Int32) (σ : ST), KYA s σ → PF st1 (KYA s) (f_X7_isLike_15 b t n x1 σ) := by
  intro n
  induction n with
  | zero => intro x1 σ h; rw [f_X7_isLike_15]; exact PF.none
  | succ n ih =>
    intro x1 σ h
    rw [f_X7_isLike_15]
    exact (PF.ite (fun _ => (PF.ret1 h)) (fun _ => (PF.bnd (wy_X7_rowAt  h) (fun q1 hq1 => (PF.bnd (wy_X7_rowAt  hq1) (fun q3 hq3 => (PF.bnd (wy_X7_sortAt  hq3) (fun q5 hq5 => (PF.bnd (wy_X7_sortAt  hq5) (fun q7 hq7 => (PF.ite (fun _ => (PF.bnd (wy_X7_sizeOf  hq7) (fun q9 hq9 => (PF.bnd (wy_X7_sizeOf  hq9) (fun q11 hq11 => (PF.ite (fun _ => (PF.bnd (wy_X7_worthOf  hq11) (fun q13 hq13 => (PF.bnd (wy_X7_worthOf  hq13) (fun q15 hq15 => (PF.ite (fun _ => (ih _ _ hq15)) (fun _ => (PF.ret1 hq15)))))))) (fun _ => (PF.ret1 hq11)))))))) (fun _ => (PF.ret1 hq7)))))))))))))
theorem wy_X7_isLike {s : ST} {b : Nat} {t : Nat} {σ : ST}   (h : KYA s σ) : PF st1 (KYA s) (f_X7_isLike b t σ) := by
  unfold f_X7_isLike
  exact (PF.ite (fun _ => (wy_X7_isLike_15  _ _ _ h)) (fun _ => (PF.ret1 h)))
theorem wy_X10_alike {s : ST} {p0 : Int32} {p1 : Int32} {p2 : Int32} {σ : ST}   (h : KYA s σ) : PF st1 (KYA s) (f_X10_alike p0 p1 p2 σ) := by
  unfold f_X10_alike
  exact (PF.bnd (wy_X1_isWritten  h) (fun q1 hq1 => (PF.ite (fun _ => (PF.ret1 hq1)) (fun _ => (PF.bnd (wy_X1_isWritten  hq1) (fun q3 hq3 => (PF.ite (fun _ => (PF.ret1 hq3)) (fun _ => (PF.bnd (wy_X10_isPlan  hq3) (fun q5 hq5 => (PF.ite (fun _ => (PF.ret1 hq5)) (fun _ => (PF.bnd (wy_X4_run (by omega) (by omega) hq5) (fun q7 hq7 => (PF.ite (fun _ => (PF.bnd (wy_X4_run (by omega) (by omega) hq7) (fun q9 hq9 => (PF.ite (fun _ => (PF.bnd (wy_X7_isLike  hq9) (fun q11 hq11 => (PF.ite (fun _ => (PF.ret1 hq11)) (fun _ => (PF.ret1 hq11)))))) (fun _ => (PF.ret1 hq9)))))) (fun _ => (PF.ret1 hq7)))))))))))))))))
theorem wy_X9_pairAt {s : ST} {p0 : Int32} {σ : ST}   (h : KYA s σ) : PF st1 (KYA s) (f_X9_pairAt p0 σ) := by
  unfold f_X9_pairAt
  exact (PF.ite (fun _ => (PF.ret1 h)) (fun _ => (PF.ite (fun _ => (PF.ret1 h)) (fun _ => (PF.ite (fun _ => (PF.ret1 h)) (fun _ => (PF.ite (fun _ => (PF.ret1 h)) (fun _ => PF.none))))))))
theorem wy_X10_kept {s : ST} {p0 : Int32} {σ : ST}   (h : KYA s σ) : PF st1 (KYA s) (f_X10_kept p0 σ) := by
  unfold f_X10_kept
  exact (PF.ite (fun _ => (PF.ret1 h)) (fun _ => (PF.bnd (wy_X9_pairAt  h) (fun q1 hq1 => (PF.ret1 hq1)))))
theorem wy_X1_writtenBits_23 {s : ST} {k4 : Int32 → Int32 → ST → Option (Int32 × ST)} {x1 : Int32} {x2 : Int32} {σ : ST} (h_k4 : ∀ (x1 : Int32) (x2 : Int32) (σ : ST), KYA s σ → PF st1 (KYA s) (k4 x1 x2 σ))  (h : KYA s σ) : PF st1 (KYA s) (f_X1_writtenBits_23 k4 x1 x2 σ) := by
  unfold f_X1_writtenBits_23
  exact (h_k4 _ _ _ h)
theorem wy_X1_writtenBits_4 {s : ST}    : ∀ (n : Nat) (x1 : Int32) (x2 : Int32) (σ : ST), KYA s σ → PF st1 (KYA s) (f_X1_writtenBits_4  n x1 x2 σ) := by
  intro n
  induction n with
  | zero => intro x1 x2 σ h; rw [f_X1_writtenBits_4]; exact PF.none
  | succ n ih =>
    intro x1 x2 σ h
    rw [f_X1_writtenBits_4]
    exact (PF.ite (fun _ => (PF.ret1 h)) (fun _ => (PF.bnd (wy_X1_isWritten  h) (fun q1 hq1 => (PF.ite (fun _ => (wy_X1_writtenBits_23 ih hq1)) (fun _ => (wy_X1_writtenBits_23 ih hq1)))))))
theorem wy_X1_writtenBits {s : ST}  {σ : ST}   (h : KYA s σ) : PF st1 (KYA s) (f_X1_writtenBits σ) := by
  unfold f_X1_writtenBits
  exact (wy_X1_writtenBits_4  _ _ _ _ h)
theorem wy_X10_count {s : ST} {p0 : Int32} {σ : ST}   (h : KYA s σ) : PF st1 (KYA s) (f_X10_count p0 σ) := by
  unfold f_X10_count
  exact (PF.ite (fun _ => (PF.ret1 h)) (fun _ => (PF.ite (fun _ => (PF.bnd (wy_X1_writtenBits  h) (fun q7 hq7 => (PF.ret1 hq7)))) (fun _ => (PF.ite (fun _ => (PF.ret1 h)) (fun _ => (PF.ite (fun _ => (PF.ret1 h)) (fun _ => (PF.ite (fun _ => (PF.ret1 h)) (fun _ => (PF.ite (fun _ => (PF.ret1 h)) (fun _ => (PF.ret1 h)))))))))))))
theorem wy_X6_signAt {s : ST} {p0 : Int32} {σ : ST}   (h : KYA s σ) : PF st1 (KYA s) (f_X6_signAt p0 σ) := by
  unfold f_X6_signAt
  exact (PF.ite (fun _ => (PF.ret1 h)) (fun _ => (PF.ite (fun _ => (PF.ret1 h)) (fun _ => (PF.ite (fun _ => (PF.ret1 h)) (fun _ => (PF.ite (fun _ => (PF.ret1 h)) (fun _ => PF.none))))))))
theorem wy_X6_isLetter {s : ST} {p0 : Int32} {σ : ST}   (h : KYA s σ) : PF st1 (KYA s) (f_X6_isLetter p0 σ) := by
  unfold f_X6_isLetter
  exact (PF.ite (fun _ => (PF.ret1 h)) (fun _ => (PF.ite (fun _ => (PF.ret1 h)) (fun _ => (PF.ret1 h)))))
theorem wy_X6_isDigit {s : ST} {p0 : Int32} {σ : ST}   (h : KYA s σ) : PF st1 (KYA s) (f_X6_isDigit p0 σ) := by
  unfold f_X6_isDigit
  exact (PF.ite (fun _ => (PF.ret1 h)) (fun _ => (PF.ite (fun _ => (PF.ret1 h)) (fun _ => (PF.ret1 h)))))
theorem wy_X6_scanNumber_189 {s : ST} {x1 : Int32} {σ : ST}   (h : KYA s σ) : PF st0 (KYA s) (f_X6_scanNumber_189 x1 σ) := by
  unfold f_X6_scanNumber_189
  exact (PF.ret0 (KYA.i (by omega) (KYA.i (by omega) h)))
theorem wy_X6_scanNumber_119 {s : ST} {x1 : Int32} {x2 : Int32} {σ : ST}   (h : KYA s σ) : PF st0 (KYA s) (f_X6_scanNumber_119 x1 x2 σ) := by
  unfold f_X6_scanNumber_119
  exact (PF.ite (fun _ => (PF.ret0 h)) (fun _ => (PF.ite (fun _ => (PF.bnd (wy_X6_signAt  h) (fun q1 hq1 => (PF.ite (fun _ => (PF.bnd (wy_X6_signAt  hq1) (fun q3 hq3 => (PF.bnd (wy_X6_isDigit  hq3) (fun q5 hq5 => (PF.ite (fun _ => (PF.ret0 hq5)) (fun _ => (PF.bnd (wy_X6_signAt  hq5) (fun q7 hq7 => (PF.bnd (wy_X6_isDigit  hq7) (fun q9 hq9 => (PF.ite (fun _ => (PF.bnd (wy_X6_signAt  (KYA.i (by omega) hq9)) (fun q11 hq11 => (wy_X6_scanNumber_189  (KYA.i (by omega) hq11))))) (fun _ => (PF.ret0 hq9)))))))))))))) (fun _ => (wy_X6_scanNumber_189  hq1)))))) (fun _ => (PF.ret0 h)))))
theorem wy_X6_scanNumber_110 {s : ST} {k65 : Int32 → Int32 → ST → Option (ST)} {x1 : Int32} {x2 : Int32} {σ : ST} (h_k65 : ∀ (x1 : Int32) (x2 : Int32) (σ : ST), KYA s σ → PF st0 (KYA s) (k65 x1 x2 σ))  (h : KYA s σ) : PF st0 (KYA s) (f_X6_scanNumber_110 k65 x1 x2 σ) := by
  unfold f_X6_scanNumber_110
  exact (h_k65 _ _ _ h)
theorem wy_X6_scanNumber_65 {s : ST}    : ∀ (n : Nat) (x1 : Int32) (x2 : Int32) (σ : ST), KYA s σ → PF st0 (KYA s) (f_X6_scanNumber_65  n x1 x2 σ) := by
  intro n
  induction n with
  | zero => intro x1 x2 σ h; rw [f_X6_scanNumber_65]; exact PF.none
  | succ n ih =>
    intro x1 x2 σ h
    rw [f_X6_scanNumber_65]
    exact (PF.ite (fun _ => (wy_X6_scanNumber_119  h)) (fun _ => (PF.bnd (wy_X6_signAt  h) (fun q1 hq1 => (PF.bnd (wy_X6_isDigit  hq1) (fun q3 hq3 => (PF.ite (fun _ => (wy_X6_scanNumber_119  hq3)) (fun _ => (PF.ite (fun _ => (wy_X6_scanNumber_110 ih hq3)) (fun _ => (PF.bnd (wy_X6_signAt  hq3) (fun q5 hq5 => (wy_X6_scanNumber_110 ih (KYA.l (by omega) hq5))))))))))))))
theorem wy_X6_scanNumber_62 {s : ST} {y0 : Int32} {σ : ST}   (h : KYA s σ) : PF st0 (KYA s) (f_X6_scanNumber_62 y0 σ) := by
  unfold f_X6_scanNumber_62
  exact (wy_X6_scanNumber_65  _ _ _ _ h)
theorem wy_X6_scanNumber_19 {s : ST} {y0 : Int32} {σ : ST}   (h : KYA s σ) : PF st0 (KYA s) (f_X6_scanNumber_19 y0 σ) := by
  unfold f_X6_scanNumber_19
  exact (PF.ite (fun _ => (PF.ite (fun _ => (wy_X6_scanNumber_62  (KYA.i (by omega) (KYA.l (by omega) (KYA.i (by omega) (KYA.i (by omega) (KYA.i (by omega) h))))))) (fun _ => (wy_X6_scanNumber_62  (KYA.i (by omega) (KYA.l (by omega) (KYA.i (by omega) (KYA.i (by omega) (KYA.i (by omega) h))))))))) (fun _ => PF.none))
theorem wy_X6_scanNumber {s : ST}  {σ : ST}   (h : KYA s σ) : PF st0 (KYA s) (f_X6_scanNumber σ) := by
  unfold f_X6_scanNumber
  exact (PF.bnd (wy_X6_signAt  h) (fun q1 hq1 => (PF.ite (fun _ => (wy_X6_scanNumber_19  hq1)) (fun _ => (wy_X6_scanNumber_19  hq1)))))
theorem wy_X6_advance_113 {s : ST}  {σ : ST}   (h : KYA s σ) : PF st0 (KYA s) (f_X6_advance_113 σ) := by
  unfold f_X6_advance_113
  exact (PF.bnd (wy_X6_scanNumber  h) (fun q1 hq1 => (PF.ret0 hq1)))
theorem wy_X6_takeLetters_95 {s : ST} {k7 : Int32 → Int32 → Int32 → ST → Option (Int32 × ST)} {x1 : Int32} {x2 : Int32} {x3 : Int32} {σ : ST} (h_k7 : ∀ (x1 : Int32) (x2 : Int32) (x3 : Int32) (σ : ST), KYA s σ → PF st1 (KYA s) (k7 x1 x2 x3 σ))  (h : KYA s σ) : PF st1 (KYA s) (f_X6_takeLetters_95 k7 x1 x2 x3 σ) := by
  unfold f_X6_takeLetters_95
  exact (h_k7 _ _ _ _ h)
theorem wy_X6_takeLetters_57 {s : ST} {k7 : Int32 → Int32 → Int32 → ST → Option (Int32 × ST)} {x1 : Int32} {x2 : Int32} {x3 : Int32} {y0 : Int32} {σ : ST} (h_k7 : ∀ (x1 : Int32) (x2 : Int32) (x3 : Int32) (σ : ST), KYA s σ → PF st1 (KYA s) (k7 x1 x2 x3 σ))  (h : KYA s σ) : PF st1 (KYA s) (f_X6_takeLetters_57 k7 x1 x2 x3 y0 σ) := by
  unfold f_X6_takeLetters_57
  exact (PF.ite (fun _ => (PF.ret1 h)) (fun _ => (PF.ite (fun _ => (PF.ite (fun _ => (wy_X6_takeLetters_95 h_k7 h)) (fun _ => (wy_X6_takeLetters_95 h_k7 (KYA.l (by omega) h))))) (fun _ => (PF.ret1 h)))))
theorem wy_X6_takeLetters_56 {s : ST} {k7 : Int32 → Int32 → Int32 → ST → Option (Int32 × ST)} {x1 : Int32} {x2 : Int32} {x3 : Int32} {σ : ST} (h_k7 : ∀ (x1 : Int32) (x2 : Int32) (x3 : Int32) (σ : ST), KYA s σ → PF st1 (KYA s) (k7 x1 x2 x3 σ))  (h : KYA s σ) : PF st1 (KYA s) (f_X6_takeLetters_56 k7 x1 x2 x3 σ) := by
  unfold f_X6_takeLetters_56
  exact (wy_X6_takeLetters_57 h_k7 h)
theorem wy_X6_takeLetters_7 {s : ST}    : ∀ (n : Nat) (x1 : Int32) (x2 : Int32) (x3 : Int32) (σ : ST), KYA s σ → PF st1 (KYA s) (f_X6_takeLetters_7  n x1 x2 x3 σ) := by
  intro n
  induction n with
  | zero => intro x1 x2 x3 σ h; rw [f_X6_takeLetters_7]; exact PF.none
  | succ n ih =>
    intro x1 x2 x3 σ h
    rw [f_X6_takeLetters_7]
    exact (PF.ite (fun _ => (PF.ret1 h)) (fun _ => (PF.ite (fun _ => (wy_X6_takeLetters_56 ih h)) (fun _ => (PF.ite (fun _ => (wy_X6_takeLetters_56 ih h)) (fun _ => (PF.ite (fun _ => (wy_X6_takeLetters_56 ih h)) (fun _ => (PF.ite (fun _ => (wy_X6_takeLetters_57 ih h)) (fun _ => PF.none))))))))))
theorem wy_X6_takeLetters {s : ST} {p0 : Int32} {p1 : Int32} {σ : ST}   (h : KYA s σ) : PF st1 (KYA s) (f_X6_takeLetters p0 p1 σ) := by
  unfold f_X6_takeLetters
  exact (wy_X6_takeLetters_7  _ _ _ _ _ (KYA.l (by omega) h))
theorem wy_X6_scanLettered_38 {s : ST}  {σ : ST}   (h : KYA s σ) : PF st0 (KYA s) (f_X6_scanLettered_38 σ) := by
  unfold f_X6_scanLettered_38
  exact (PF.ret0 (KYA.i (by omega) h))
theorem wy_X6_scanLettered {s : ST}  {σ : ST}   (h : KYA s σ) : PF st0 (KYA s) (f_X6_scanLettered σ) := by
  unfold f_X6_scanLettered
  exact (PF.bnd (wy_X6_takeLetters  h) (fun q1 hq1 => (PF.ite (fun _ => (wy_X6_scanLettered_38  hq1)) (fun _ => (PF.bnd (wy_X6_signAt  hq1) (fun q3 hq3 => (PF.ite (fun _ => (PF.ret0 (KYA.i (by omega) (KYA.i (by omega) hq3)))) (fun _ => (wy_X6_scanLettered_38  hq3)))))))))
theorem wy_X6_advance_169 {s : ST} {x1 : Int32} {σ : ST}   (h : KYA s σ) : PF st0 (KYA s) (f_X6_advance_169 x1 σ) := by
  unfold f_X6_advance_169
  exact (PF.ret0 (KYA.i (by omega) (KYA.i (by omega) h)))
theorem wy_X6_scanWord_75 {s : ST} {k45 : Int32 → ST → Option (ST)} {x2 : Int32} {σ : ST} (h_k45 : ∀ (x1 : Int32) (σ : ST), KYA s σ → PF st0 (KYA s) (k45 x1 σ))  (h : KYA s σ) : PF st0 (KYA s) (f_X6_scanWord_75 k45 x2 σ) := by
  unfold f_X6_scanWord_75
  exact (h_k45 _ _ h)
theorem wy_X6_scanWord_45 {s : ST}    : ∀ (n : Nat) (x1 : Int32) (σ : ST), KYA s σ → PF st0 (KYA s) (f_X6_scanWord_45  n x1 σ) := by
  intro n
  induction n with
  | zero => intro x1 σ h; rw [f_X6_scanWord_45]; exact PF.none
  | succ n ih =>
    intro x1 σ h
    rw [f_X6_scanWord_45]
    exact (PF.ite (fun _ => (PF.ret0 h)) (fun _ => (PF.ite (fun _ => (PF.ite (fun _ => (wy_X6_scanWord_75 ih (KYA.i (by omega) (KYA.i (by omega) h)))) (fun _ => (wy_X6_scanWord_75 ih h)))) (fun _ => PF.none))))
theorem wy_X6_scanWord {s : ST}  {σ : ST}   (h : KYA s σ) : PF st0 (KYA s) (f_X6_scanWord σ) := by
  unfold f_X6_scanWord
  exact (PF.bnd (wy_X6_takeLetters  h) (fun q1 hq1 => (PF.ite (fun _ => (wy_X6_scanWord_45  _ _ _ (KYA.i (by omega) (KYA.i (by omega) (KYA.i (by omega) hq1))))) (fun _ => (PF.ret0 (KYA.i (by omega) hq1))))))
theorem wy_X6_advance_50 {s : ST}  {σ : ST}   (h : KYA s σ) : PF st0 (KYA s) (f_X6_advance_50 σ) := by
  unfold f_X6_advance_50
  exact (PF.bnd (wy_X6_signAt  (KYA.i (by omega) h)) (fun q1 hq1 => (PF.ite (fun _ => (PF.bnd (wy_X6_isLetter  hq1) (fun q3 hq3 => (PF.ite (fun _ => (PF.ite (fun _ => (wy_X6_advance_113  hq3)) (fun _ => (PF.bnd (wy_X6_isDigit  hq3) (fun q5 hq5 => (PF.ite (fun _ => (PF.ite (fun _ => (PF.bnd (wy_X6_scanLettered  hq5) (fun q7 hq7 => (PF.ret0 hq7)))) (fun _ => (PF.ite (fun _ => (wy_X6_advance_169  hq5)) (fun _ => (PF.ite (fun _ => (wy_X6_advance_169  hq5)) (fun _ => (PF.ite (fun _ => (wy_X6_advance_169  hq5)) (fun _ => (PF.ite (fun _ => (wy_X6_advance_169  hq5)) (fun _ => (PF.ite (fun _ => (wy_X6_advance_169  hq5)) (fun _ => (PF.ite (fun _ => (wy_X6_advance_169  hq5)) (fun _ => (PF.ret0 (KYA.i (by omega) hq5))))))))))))))))) (fun _ => (wy_X6_advance_113  hq5)))))))) (fun _ => (PF.bnd (wy_X6_scanWord  hq3) (fun q9 hq9 => (PF.ret0 hq9)))))))) (fun _ => (PF.ret0 (KYA.i (by omega) hq1))))))
theorem wy_X6_advance_37 {s : ST} {k0 : ST → Option (ST)} {σ : ST} (h_k0 : ∀ (σ : ST), KYA s σ → PF st0 (KYA s) (k0 σ))  (h : KYA s σ) : PF st0 (KYA s) (f_X6_advance_37 k0 σ) := by
  unfold f_X6_advance_37
  exact (h_k0 _ (KYA.i (by omega) h))
theorem wy_X6_advance_0 {s : ST}    : ∀ (n : Nat) (σ : ST), KYA s σ → PF st0 (KYA s) (f_X6_advance_0  n σ) := by
  intro n
  induction n with
  | zero => intro σ h; rw [f_X6_advance_0]; exact PF.none
  | succ n ih =>
    intro σ h
    rw [f_X6_advance_0]
    exact (PF.ite (fun _ => (wy_X6_advance_50  h)) (fun _ => (PF.bnd (wy_X6_signAt  h) (fun q1 hq1 => (PF.ite (fun _ => (wy_X6_advance_37 ih hq1)) (fun _ => (PF.bnd (wy_X6_signAt  hq1) (fun q3 hq3 => (PF.ite (fun _ => (wy_X6_advance_37 ih hq3)) (fun _ => (wy_X6_advance_50  hq3)))))))))))
theorem wy_X6_advance {s : ST}  {σ : ST}   (h : KYA s σ) : PF st0 (KYA s) (f_X6_advance σ) := by
  unfold f_X6_advance
  exact (wy_X6_advance_0  _ _ h)
theorem wy_X6_begin {s : ST} {p0 : Int32} {σ : ST}   (h : KYA s σ) : PF st0 (KYA s) (f_X6_begin p0 σ) := by
  unfold f_X6_begin
  exact (PF.bnd (wy_X6_advance  (KYA.i (by omega) (KYA.i (by omega) (KYA.i (by omega) (KYA.i (by omega) h))))) (fun q1 hq1 => (PF.ret0 hq1)))
theorem wy_X5_clear {s : ST} {b : Nat} {σ : ST}  (h_b : (b = 20 ∨ 62 ≤ b)) (h : KYA s σ) : PF st0 (KYA s) (f_X5_clear b σ) := by
  unfold f_X5_clear
  exact (PF.ret0 (KYA.i (by omega) (KYA.i (by omega) h)))
theorem wy_X6_isKeyword {s : ST} {p0 : Int32} {σ : ST}   (h : KYA s σ) : PF st1 (KYA s) (f_X6_isKeyword p0 σ) := by
  unfold f_X6_isKeyword
  exact (PF.ite (fun _ => (PF.ite (fun _ => (PF.ret1 h)) (fun _ => (PF.ret1 h)))) (fun _ => (PF.ret1 h)))
theorem wy_X6_refuseAt {s : ST} {p0 : Int32} {p1 : Int32} {σ : ST}   (h : KYA s σ) : PF st1 (KYA s) (f_X6_refuseAt p0 p1 σ) := by
  unfold f_X6_refuseAt
  exact (PF.ite (fun _ => (PF.ret1 (KYA.i (by omega) (KYA.i (by omega) h)))) (fun _ => (PF.ret1 h)))
theorem wy_X6_refuse {s : ST} {p0 : Int32} {σ : ST}   (h : KYA s σ) : PF st1 (KYA s) (f_X6_refuse p0 σ) := by
  unfold f_X6_refuse
  exact (PF.bnd (wy_X6_refuseAt  h) (fun q1 hq1 => (PF.ite (fun _ => (PF.ret1 hq1)) (fun _ => PF.none))))
theorem wy_X5_resolve_62 {s : ST} {k6 : Int32 → Int32 → ST → Option (Int32 × ST)} {b : Nat} {x1 : Int32} {x2 : Int32} {σ : ST} (h_k6 : ∀ (x1 : Int32) (x2 : Int32) (σ : ST), KYA s σ → PF st1 (KYA s) (k6 x1 x2 σ))  (h : KYA s σ) : PF st1 (KYA s) (f_X5_resolve_62 k6 b x1 x2 σ) := by
  unfold f_X5_resolve_62
  exact (h_k6 _ _ _ h)
theorem wy_X5_recordNamed_3 {s : ST} {b : Nat}   : ∀ (n : Nat) (x1 : Int32) (x2 : Int64) (x3 : Int32) (σ : ST), KYA s σ → PF st1 (KYA s) (f_X5_recordNamed_3 b n x1 x2 x3 σ) := by
  intro n
  induction n with
  | zero => intro x1 x2 x3 σ h; rw [f_X5_recordNamed_3]; exact PF.none
  | succ n ih =>
    intro x1 x2 x3 σ h
    rw [f_X5_recordNamed_3]
    exact (PF.bnd (wy_X5_recordsOf  h) (fun q1 hq1 => (PF.ite (fun _ => (PF.ret1 hq1)) (fun _ => (PF.bnd (wy_X5_recordName  hq1) (fun q3 hq3 => (PF.ite (fun _ => (PF.ret1 hq3)) (fun _ => (ih _ _ _ _ hq3)))))))))
theorem wy_X5_recordNamed {s : ST} {b : Nat} {p0 : Int32} {p1 : Int64} {σ : ST}   (h : KYA s σ) : PF st1 (KYA s) (f_X5_recordNamed b p0 p1 σ) := by
  unfold f_X5_recordNamed
  exact (wy_X5_recordNamed_3  _ _ _ _ _ h)
theorem wy_X5_resolve_6 {s : ST} {b : Nat}  (h_b : (b = 20 ∨ 62 ≤ b)) : ∀ (n : Nat) (x1 : Int32) (x2 : Int32) (σ : ST), KYA s σ → PF st1 (KYA s) (f_X5_resolve_6 b n x1 x2 σ) := by
  intro n
  induction n with
  | zero => intro x1 x2 σ h; rw [f_X5_resolve_6]; exact PF.none
  | succ n ih =>
    intro x1 x2 σ h
    rw [f_X5_resolve_6]
    exact (PF.ite (fun _ => (PF.ret1 h)) (fun _ => (PF.bnd (wy_X5_isType  h) (fun q1 hq1 => (PF.ite (fun _ => (wy_X5_resolve_62 ih hq1)) (fun _ => (PF.ite (fun _ => (PF.ite (fun _ => (wy_X5_resolve_62 ih hq1)) (fun _ => (PF.bnd (wy_X5_recordNamed  hq1) (fun q4 hq4 => (PF.ite (fun _ => (PF.ret1 (KYA.i (by omega) hq4))) (fun _ => (wy_X5_resolve_62 ih (KYA.i (by omega) hq4))))))))) (fun _ => PF.none))))))))
theorem wy_X5_resolve {s : ST} {b : Nat} {p0 : Int32} {σ : ST}  (h_b : (b = 20 ∨ 62 ≤ b)) (h : KYA s σ) : PF st1 (KYA s) (f_X5_resolve b p0 σ) := by
  unfold f_X5_resolve
  exact (PF.bnd (wy_X5_rootType  h) (fun q1 hq1 => (wy_X5_resolve_6 (by omega) _ _ _ _ hq1)))
theorem wy_X3_resolve_33 {s : ST}  {σ : ST}   (h : KYA s σ) : PF st1 (KYA s) (f_X3_resolve_33 σ) := by
  unfold f_X3_resolve_33
  exact (PF.ret1 h)
theorem wy_X5_askedPlace {s : ST} {b : Nat} {p0 : Int32} {σ : ST}   (h : KYA s σ) : PF st1 (KYA s) (f_X5_askedPlace b p0 σ) := by
  unfold f_X5_askedPlace
  exact (PF.bnd (wy_X5_isType  h) (fun q1 hq1 => (PF.ite (fun _ => (PF.ret1 hq1)) (fun _ => (PF.ite (fun _ => (PF.ret1 hq1)) (fun _ => PF.none))))))
theorem wy_X3_resolve {s : ST} {p0 : Int32} {σ : ST}   (h : KYA s σ) : PF st1 (KYA s) (f_X3_resolve p0 σ) := by
  unfold f_X3_resolve
  exact (PF.bnd (wy_X5_resolve (by omega) h) (fun q1 hq1 => (PF.ite (fun _ => (wy_X3_resolve_33  hq1)) (fun _ => (PF.bnd (wy_X5_askedPlace  hq1) (fun q3 hq3 => (PF.bnd (wy_X6_refuseAt  hq3) (fun q5 hq5 => (PF.ite (fun _ => (PF.ret1 hq5)) (fun _ => (wy_X3_resolve_33  hq5)))))))))))
theorem wy_X5_addType {s : ST} {b : Nat} {p0 : Int32} {σ : ST}  (h_b : (b = 20 ∨ 62 ≤ b)) (h : KYA s σ) : PF st1 (KYA s) (f_X5_addType b p0 σ) := by
  unfold f_X5_addType
  exact (PF.ite (fun _ => (PF.ite (fun _ => (PF.bnd (PF.ret0 (KYA.i (by omega) (KYA.i (by omega) h))) (fun z2 hz2 => (PF.bnd (PF.ret0 (KYA.l (by omega) (KYA.i (by omega) hz2))) (fun z3 hz3 => (PF.bnd (PF.ret0 (KYA.i (by omega) (KYA.i (by omega) hz3))) (fun z4 hz4 => (PF.ret1 hz4)))))))) (fun _ => PF.none))) (fun _ => (PF.ret1 h)))
theorem wy_X5_setInner {s : ST} {b : Nat} {p0 : Int32} {p1 : Int32} {σ : ST}  (h_b : (b = 20 ∨ 62 ≤ b)) (h : KYA s σ) : PF st0 (KYA s) (f_X5_setInner b p0 p1 σ) := by
  unfold f_X5_setInner
  exact (PF.bnd (wy_X5_isType  h) (fun q1 hq1 => (PF.ite (fun _ => (PF.ret0 hq1)) (fun _ => (PF.ite (fun _ => (PF.ret0 (KYA.i (by omega) hq1))) (fun _ => PF.none))))))
theorem wy_X5_addPlan {s : ST} {b : Nat} {p0 : Int32} {σ : ST}  (h_b : (b = 20 ∨ 62 ≤ b)) (h : KYA s σ) : PF st0 (KYA s) (f_X5_addPlan b p0 σ) := by
  unfold f_X5_addPlan
  exact (PF.ite (fun _ => (PF.ret0 h)) (fun _ => (PF.ite (fun _ => (PF.ite (fun _ => (PF.bnd (wy_X5_addType (by omega) (KYA.i (by omega) h)) (fun q2 hq2 => (PF.bnd (wy_X5_setInner (by omega) (KYA.i (by omega) hq2)) (fun q4 hq4 => (PF.ret0 (KYA.i (by omega) hq4))))))) (fun _ => PF.none))) (fun _ => (PF.ret0 h)))))
theorem wy_X3_beginPlan {s : ST} {p0 : Int32} {σ : ST}   (h : KYA s σ) : PF st1 (KYA s) (f_X3_beginPlan p0 σ) := by
  unfold f_X3_beginPlan
  exact (PF.ite (fun _ => (PF.bnd (wy_X5_addPlan (by omega) h) (fun q1 hq1 => (PF.bnd (wy_X6_advance  hq1) (fun q3 hq3 => (PF.ite (fun _ => (PF.bnd (wy_X6_advance  hq3) (fun q5 hq5 => (PF.ret1 hq5)))) (fun _ => (PF.bnd (wy_X6_refuse  hq3) (fun q7 hq7 => (PF.ite (fun _ => (PF.ret1 hq7)) (fun _ => PF.none))))))))))) (fun _ => (PF.bnd (wy_X6_refuse  h) (fun q9 hq9 => (PF.ite (fun _ => (PF.ret1 hq9)) (fun _ => PF.none))))))
theorem wy_X3_parse_157 {s : ST} {k11 : Int32 → Int32 → ST → Option (Int32 × ST)} {x1 : Int32} {x2 : Int32} {σ : ST} (h_k11 : ∀ (x1 : Int32) (x2 : Int32) (σ : ST), KYA s σ → PF st1 (KYA s) (k11 x1 x2 σ))  (h : KYA s σ) : PF st1 (KYA s) (f_X3_parse_157 k11 x1 x2 σ) := by
  unfold f_X3_parse_157
  exact (h_k11 _ _ _ h)
theorem wy_X3_parse_127 {s : ST} {k11 : Int32 → Int32 → ST → Option (Int32 × ST)} {x1 : Int32} {x2 : Int32} {x4 : Int32} {σ : ST} (h_k11 : ∀ (x1 : Int32) (x2 : Int32) (σ : ST), KYA s σ → PF st1 (KYA s) (k11 x1 x2 σ))  (h : KYA s σ) : PF st1 (KYA s) (f_X3_parse_127 k11 x1 x2 x4 σ) := by
  unfold f_X3_parse_127
  exact (PF.bnd (wy_X3_resolve  h) (fun q1 hq1 => (PF.ite (fun _ => (PF.ret1 hq1)) (fun _ => (PF.ite (fun _ => (PF.bnd (wy_X3_beginPlan  hq1) (fun q3 hq3 => (PF.ite (fun _ => (PF.ret1 hq3)) (fun _ => (wy_X3_parse_157 h_k11 hq3)))))) (fun _ => (PF.ret1 hq1)))))))
theorem wy_X3_parse_106 {s : ST} {k11 : Int32 → Int32 → ST → Option (Int32 × ST)} {x1 : Int32} {x2 : Int32} {x4 : Int32} {y0 : Int32} {σ : ST} (h_k11 : ∀ (x1 : Int32) (x2 : Int32) (σ : ST), KYA s σ → PF st1 (KYA s) (k11 x1 x2 σ))  (h : KYA s σ) : PF st1 (KYA s) (f_X3_parse_106 k11 x1 x2 x4 y0 σ) := by
  unfold f_X3_parse_106
  exact (PF.ite (fun _ => (PF.ite (fun _ => (PF.bnd (wy_X6_refuse  h) (fun q1 hq1 => (PF.ite (fun _ => (PF.ret1 hq1)) (fun _ => PF.none))))) (fun _ => (wy_X3_parse_127 h_k11 h)))) (fun _ => (wy_X3_parse_127 h_k11 h)))
theorem wy_X3_parse_105 {s : ST} {k11 : Int32 → Int32 → ST → Option (Int32 × ST)} {x1 : Int32} {x2 : Int32} {x4 : Int32} {σ : ST} (h_k11 : ∀ (x1 : Int32) (x2 : Int32) (σ : ST), KYA s σ → PF st1 (KYA s) (k11 x1 x2 σ))  (h : KYA s σ) : PF st1 (KYA s) (f_X3_parse_105 k11 x1 x2 x4 σ) := by
  unfold f_X3_parse_105
  exact (wy_X3_parse_106 h_k11 h)
theorem wy_X3_parse_90 {s : ST} {k11 : Int32 → Int32 → ST → Option (Int32 × ST)} {x1 : Int32} {x2 : Int32} {x4 : Int32} {σ : ST} (h_k11 : ∀ (x1 : Int32) (x2 : Int32) (σ : ST), KYA s σ → PF st1 (KYA s) (k11 x1 x2 σ))  (h : KYA s σ) : PF st1 (KYA s) (f_X3_parse_90 k11 x1 x2 x4 σ) := by
  unfold f_X3_parse_90
  exact (PF.bnd (wy_X6_isKeyword  h) (fun q1 hq1 => (PF.ite (fun _ => (wy_X3_parse_105 h_k11 hq1)) (fun _ => (wy_X3_parse_106 h_k11 hq1)))))
theorem wy_X3_parse_79 {s : ST} {k11 : Int32 → Int32 → ST → Option (Int32 × ST)} {x1 : Int32} {x2 : Int32} {x3 : Int32} {y0 : Int32} {σ : ST} (h_k11 : ∀ (x1 : Int32) (x2 : Int32) (σ : ST), KYA s σ → PF st1 (KYA s) (k11 x1 x2 σ))  (h : KYA s σ) : PF st1 (KYA s) (f_X3_parse_79 k11 x1 x2 x3 y0 σ) := by
  unfold f_X3_parse_79
  exact (PF.ite (fun _ => (PF.ite (fun _ => (wy_X3_parse_90 h_k11 h)) (fun _ => (wy_X3_parse_105 h_k11 h)))) (fun _ => (wy_X3_parse_90 h_k11 h)))
theorem wy_X3_parse_78 {s : ST} {k11 : Int32 → Int32 → ST → Option (Int32 × ST)} {x1 : Int32} {x2 : Int32} {x3 : Int32} {σ : ST} (h_k11 : ∀ (x1 : Int32) (x2 : Int32) (σ : ST), KYA s σ → PF st1 (KYA s) (k11 x1 x2 σ))  (h : KYA s σ) : PF st1 (KYA s) (f_X3_parse_78 k11 x1 x2 x3 σ) := by
  unfold f_X3_parse_78
  exact (wy_X3_parse_79 h_k11 h)
theorem wy_X3_parse_60 {s : ST} {k11 : Int32 → Int32 → ST → Option (Int32 × ST)} {x1 : Int32} {x2 : Int32} {x3 : Int32} {σ : ST} (h_k11 : ∀ (x1 : Int32) (x2 : Int32) (σ : ST), KYA s σ → PF st1 (KYA s) (k11 x1 x2 σ))  (h : KYA s σ) : PF st1 (KYA s) (f_X3_parse_60 k11 x1 x2 x3 σ) := by
  unfold f_X3_parse_60
  exact (PF.ite (fun _ => (wy_X3_parse_78 h_k11 h)) (fun _ => (PF.ite (fun _ => (wy_X3_parse_79 h_k11 h)) (fun _ => (wy_X3_parse_78 h_k11 h)))))
theorem wy_X5_addRecord {s : ST} {b : Nat} {p0 : Int32} {p1 : Int64} {σ : ST}  (h_b : (b = 20 ∨ 62 ≤ b)) (h : KYA s σ) : PF st0 (KYA s) (f_X5_addRecord b p0 p1 σ) := by
  unfold f_X5_addRecord
  exact (PF.bnd (wy_X5_recordsOf  h) (fun q1 hq1 => (PF.ite (fun _ => (PF.ret0 hq1)) (fun _ => (PF.ite (fun _ => (PF.ret0 hq1)) (fun _ => (PF.bnd (wy_X5_isRecord  hq1) (fun q3 hq3 => (PF.ite (fun _ => (PF.ret0 hq3)) (fun _ => (PF.ite (fun _ => (PF.bnd (PF.ret0 (KYA.i (by omega) (KYA.l (by omega) hq3))) (fun z6 hz6 => (PF.ite (fun _ => (PF.bnd (PF.ret0 (KYA.i (by omega) (KYA.i (by omega) hz6))) (fun z8 hz8 => (PF.ret0 hz8)))) (fun _ => PF.none))))) (fun _ => PF.none))))))))))))
theorem wy_X5_addField {s : ST} {b : Nat} {p0 : Int32} {p1 : Int64} {σ : ST}  (h_b : (b = 20 ∨ 62 ≤ b)) (h : KYA s σ) : PF st0 (KYA s) (f_X5_addField b p0 p1 σ) := by
  unfold f_X5_addField
  exact (PF.bnd (wy_X5_fieldsOf  h) (fun q1 hq1 => (PF.bnd (wy_X5_isFieldOf  hq1) (fun q3 hq3 => (PF.ite (fun _ => (PF.ret0 hq3)) (fun _ => (PF.ite (fun _ => (PF.bnd (PF.ret0 (KYA.l (by omega) (KYA.l (by omega) hq3))) (fun z6 hz6 => (PF.bnd (PF.ret0 (KYA.l (by omega) (KYA.i (by omega) hz6))) (fun z7 hz7 => (PF.ite (fun _ => (PF.ret0 (KYA.i (by omega) hz7))) (fun _ => PF.none))))))) (fun _ => PF.none))))))))
theorem wy_X3_parseBranches_110 {s : ST} {r_X3_parseBranches : Int32 → Int32 → ST → Option (Int32 × ST)} {r_X3_parseType : Int32 → Int32 → ST → Option (Int32 × ST)} {σ : ST} (h_r_X3_parseBranches : ∀ (x1 : Int32) (x2 : Int32) (σ : ST), KYA s σ → PF st1 (KYA s) (r_X3_parseBranches x1 x2 σ)) (h_r_X3_parseType : ∀ (x1 : Int32) (x2 : Int32) (σ : ST), KYA s σ → PF st1 (KYA s) (r_X3_parseType x1 x2 σ))  (h : KYA s σ) : PF st1 (KYA s) (f_X3_parseBranches_110 r_X3_parseBranches r_X3_parseType σ) := by
  unfold f_X3_parseBranches_110
  exact (PF.ret1 h)
theorem wy_X3_parseBranches_64 {s : ST} {r_X3_parseBranches : Int32 → Int32 → ST → Option (Int32 × ST)} {r_X3_parseType : Int32 → Int32 → ST → Option (Int32 × ST)} {k10 : Int32 → Int32 → Int32 → Int32 → Int32 → ST → Option (Int32 × ST)} {x1 : Int32} {x2 : Int32} {x3 : Int32} {x5 : Int32} {x6 : Int32} {σ : ST} (h_r_X3_parseBranches : ∀ (x1 : Int32) (x2 : Int32) (σ : ST), KYA s σ → PF st1 (KYA s) (r_X3_parseBranches x1 x2 σ)) (h_r_X3_parseType : ∀ (x1 : Int32) (x2 : Int32) (σ : ST), KYA s σ → PF st1 (KYA s) (r_X3_parseType x1 x2 σ)) (h_k10 : ∀ (x1 : Int32) (x2 : Int32) (x3 : Int32) (x4 : Int32) (x5 : Int32) (σ : ST), KYA s σ → PF st1 (KYA s) (k10 x1 x2 x3 x4 x5 σ))  (h : KYA s σ) : PF st1 (KYA s) (f_X3_parseBranches_64 r_X3_parseBranches r_X3_parseType k10 x1 x2 x3 x5 x6 σ) := by
  unfold f_X3_parseBranches_64
  exact (PF.bnd (wy_X5_sortOf  h) (fun q1 hq1 => (PF.bnd (wy_X6_isKeyword  hq1) (fun q3 hq3 => (PF.ite (fun _ => (PF.ite (fun _ => (wy_X3_parseBranches_110 h_r_X3_parseBranches h_r_X3_parseType hq3)) (fun _ => (PF.bnd (wy_X6_refuse  hq3) (fun q7 hq7 => (PF.ite (fun _ => (PF.ret1 hq7)) (fun _ => (wy_X3_parseBranches_110 h_r_X3_parseBranches h_r_X3_parseType hq7)))))))) (fun _ => (PF.bnd (wy_X6_advance  hq3) (fun q5 hq5 => (h_k10 _ _ _ _ _ _ hq5)))))))))
theorem wy_X5_setBranchAfter {s : ST} {b : Nat} {p0 : Int32} {p1 : Int32} {σ : ST}  (h_b : (b = 20 ∨ 62 ≤ b)) (h : KYA s σ) : PF st0 (KYA s) (f_X5_setBranchAfter b p0 p1 σ) := by
  unfold f_X5_setBranchAfter
  exact (PF.bnd (wy_X5_isType  h) (fun q1 hq1 => (PF.ite (fun _ => (PF.ret0 hq1)) (fun _ => (PF.ite (fun _ => (PF.ret0 (KYA.i (by omega) hq1))) (fun _ => PF.none))))))
theorem wy_X3_parseBranches_10 {s : ST} {r_X3_parseBranches : Int32 → Int32 → ST → Option (Int32 × ST)} {r_X3_parseType : Int32 → Int32 → ST → Option (Int32 × ST)} (h_r_X3_parseBranches : ∀ (x1 : Int32) (x2 : Int32) (σ : ST), KYA s σ → PF st1 (KYA s) (r_X3_parseBranches x1 x2 σ)) (h_r_X3_parseType : ∀ (x1 : Int32) (x2 : Int32) (σ : ST), KYA s σ → PF st1 (KYA s) (r_X3_parseType x1 x2 σ))  : ∀ (n : Nat) (x1 : Int32) (x2 : Int32) (x3 : Int32) (x4 : Int32) (x5 : Int32) (σ : ST), KYA s σ → PF st1 (KYA s) (f_X3_parseBranches_10 r_X3_parseBranches r_X3_parseType n x1 x2 x3 x4 x5 σ) := by
  intro n
  induction n with
  | zero => intro x1 x2 x3 x4 x5 σ h; rw [f_X3_parseBranches_10]; exact PF.none
  | succ n ih =>
    intro x1 x2 x3 x4 x5 σ h
    rw [f_X3_parseBranches_10]
    exact (PF.ite (fun _ => (PF.ret1 h)) (fun _ => (PF.bnd (h_r_X3_parseType _ _ _ h) (fun q1 hq1 => (PF.ite (fun _ => (PF.ret1 hq1)) (fun _ => (PF.ite (fun _ => (PF.bnd (wy_X5_setInner (by omega) hq1) (fun q5 hq5 => (wy_X3_parseBranches_64 h_r_X3_parseBranches h_r_X3_parseType ih hq5)))) (fun _ => (PF.bnd (wy_X5_setBranchAfter (by omega) hq1) (fun q3 hq3 => (wy_X3_parseBranches_64 h_r_X3_parseBranches h_r_X3_parseType ih hq3)))))))))))
theorem wy_X3_parseBranches {s : ST} {r_X3_parseBranches : Int32 → Int32 → ST → Option (Int32 × ST)} {r_X3_parseType : Int32 → Int32 → ST → Option (Int32 × ST)} {p0 : Int32} {p1 : Int32} {σ : ST} (h_r_X3_parseBranches : ∀ (x1 : Int32) (x2 : Int32) (σ : ST), KYA s σ → PF st1 (KYA s) (r_X3_parseBranches x1 x2 σ)) (h_r_X3_parseType : ∀ (x1 : Int32) (x2 : Int32) (σ : ST), KYA s σ → PF st1 (KYA s) (r_X3_parseType x1 x2 σ))  (h : KYA s σ) : PF st1 (KYA s) (f_X3_parseBranches r_X3_parseBranches r_X3_parseType p0 p1 σ) := by
  unfold f_X3_parseBranches
  exact (wy_X3_parseBranches_10 h_r_X3_parseBranches h_r_X3_parseType _ _ _ _ _ _ _ h)
theorem wy_X6_sortBegun {s : ST}  {σ : ST}   (h : KYA s σ) : PF st1 (KYA s) (f_X6_sortBegun σ) := by
  unfold f_X6_sortBegun
  exact (PF.ite (fun _ => (PF.ret1 h)) (fun _ => (PF.ite (fun _ => (PF.ite (fun _ => (PF.ret1 h)) (fun _ => (PF.ite (fun _ => (PF.ret1 h)) (fun _ => (PF.ite (fun _ => (PF.ret1 h)) (fun _ => (PF.ite (fun _ => (PF.ret1 h)) (fun _ => (PF.ret1 h)))))))))) (fun _ => (PF.ret1 h)))))
theorem wy_X5_setAsked {s : ST} {b : Nat} {p0 : Int32} {p1 : Int64} {p2 : Int32} {σ : ST}  (h_b : (b = 20 ∨ 62 ≤ b)) (h : KYA s σ) : PF st0 (KYA s) (f_X5_setAsked b p0 p1 p2 σ) := by
  unfold f_X5_setAsked
  exact (PF.bnd (wy_X5_isType  h) (fun q1 hq1 => (PF.ite (fun _ => (PF.ret0 hq1)) (fun _ => (PF.ite (fun _ => (PF.ret0 (KYA.i (by omega) (KYA.l (by omega) hq1)))) (fun _ => PF.none))))))
theorem wy_X3_parseType_116 {s : ST} {r_X3_parseBranches : Int32 → Int32 → ST → Option (Int32 × ST)} {r_X3_parseType : Int32 → Int32 → ST → Option (Int32 × ST)} {x1 : Int32} {x3 : Int32} {x4 : Int32} {σ : ST} (h_r_X3_parseBranches : ∀ (x1 : Int32) (x2 : Int32) (σ : ST), KYA s σ → PF st1 (KYA s) (r_X3_parseBranches x1 x2 σ)) (h_r_X3_parseType : ∀ (x1 : Int32) (x2 : Int32) (σ : ST), KYA s σ → PF st1 (KYA s) (r_X3_parseType x1 x2 σ))  (h : KYA s σ) : PF st1 (KYA s) (f_X3_parseType_116 r_X3_parseBranches r_X3_parseType x1 x3 x4 σ) := by
  unfold f_X3_parseType_116
  exact (PF.bnd (wy_X6_advance  h) (fun q1 hq1 => (PF.ite (fun _ => (PF.bnd (h_r_X3_parseBranches _ _ _ hq1) (fun q7 hq7 => (PF.ite (fun _ => (PF.ret1 hq7)) (fun _ => (PF.ret1 hq7)))))) (fun _ => (PF.ite (fun _ => (PF.bnd (h_r_X3_parseType _ _ _ hq1) (fun q3 hq3 => (PF.bnd (wy_X5_setInner (by omega) hq3) (fun q5 hq5 => (PF.ite (fun _ => (PF.ret1 hq5)) (fun _ => (PF.ret1 hq5)))))))) (fun _ => (PF.ret1 hq1)))))))
theorem wy_X3_parseType_49 {s : ST} {r_X3_parseBranches : Int32 → Int32 → ST → Option (Int32 × ST)} {r_X3_parseType : Int32 → Int32 → ST → Option (Int32 × ST)} {x1 : Int32} {x2 : Int32} {x3 : Int32} {y0 : Int32} {σ : ST} (h_r_X3_parseBranches : ∀ (x1 : Int32) (x2 : Int32) (σ : ST), KYA s σ → PF st1 (KYA s) (r_X3_parseBranches x1 x2 σ)) (h_r_X3_parseType : ∀ (x1 : Int32) (x2 : Int32) (σ : ST), KYA s σ → PF st1 (KYA s) (r_X3_parseType x1 x2 σ))  (h : KYA s σ) : PF st1 (KYA s) (f_X3_parseType_49 r_X3_parseBranches r_X3_parseType x1 x2 x3 y0 σ) := by
  unfold f_X3_parseType_49
  exact (PF.ite (fun _ => (PF.bnd (wy_X6_refuse  h) (fun q5 hq5 => (PF.ret1 hq5)))) (fun _ => (PF.ite (fun _ => (PF.ite (fun _ => (PF.bnd (wy_X5_setAsked (by omega) h) (fun q1 hq1 => (wy_X3_parseType_116 h_r_X3_parseBranches h_r_X3_parseType hq1)))) (fun _ => (wy_X3_parseType_116 h_r_X3_parseBranches h_r_X3_parseType h)))) (fun _ => (PF.bnd (wy_X6_refuse  h) (fun q3 hq3 => (PF.ret1 hq3)))))))
theorem wy_X3_parseType_37 {s : ST} {r_X3_parseBranches : Int32 → Int32 → ST → Option (Int32 × ST)} {r_X3_parseType : Int32 → Int32 → ST → Option (Int32 × ST)} {x1 : Int32} {x2 : Int32} {x3 : Int32} {σ : ST} (h_r_X3_parseBranches : ∀ (x1 : Int32) (x2 : Int32) (σ : ST), KYA s σ → PF st1 (KYA s) (r_X3_parseBranches x1 x2 σ)) (h_r_X3_parseType : ∀ (x1 : Int32) (x2 : Int32) (σ : ST), KYA s σ → PF st1 (KYA s) (r_X3_parseType x1 x2 σ))  (h : KYA s σ) : PF st1 (KYA s) (f_X3_parseType_37 r_X3_parseBranches r_X3_parseType x1 x2 x3 σ) := by
  unfold f_X3_parseType_37
  exact (wy_X3_parseType_49 h_r_X3_parseBranches h_r_X3_parseType h)
theorem wy_J6_bitCount_0f7a4 {s : ST} {p0 : Int32} {σ : ST}   (h : KYA s σ) : PF st1 (KYA s) (f_J6_bitCount_0f7a4 p0 σ) := by
  unfold f_J6_bitCount_0f7a4
  exact (PF.val (PF.val (PF.val (PF.val (PF.val (PF.ret1 h))))))
theorem wy_X3_parseType {s : ST} {r_X3_parseBranches : Int32 → Int32 → ST → Option (Int32 × ST)} {r_X3_parseType : Int32 → Int32 → ST → Option (Int32 × ST)} {p0 : Int32} {p1 : Int32} {σ : ST} (h_r_X3_parseBranches : ∀ (x1 : Int32) (x2 : Int32) (σ : ST), KYA s σ → PF st1 (KYA s) (r_X3_parseBranches x1 x2 σ)) (h_r_X3_parseType : ∀ (x1 : Int32) (x2 : Int32) (σ : ST), KYA s σ → PF st1 (KYA s) (r_X3_parseType x1 x2 σ))  (h : KYA s σ) : PF st1 (KYA s) (f_X3_parseType r_X3_parseBranches r_X3_parseType p0 p1 σ) := by
  unfold f_X3_parseType
  exact (PF.bnd (wy_X6_sortBegun  h) (fun q1 hq1 => (PF.ite (fun _ => (PF.bnd (wy_X6_refuse  hq1) (fun q7 hq7 => (PF.ret1 hq7)))) (fun _ => (PF.ite (fun _ => (wy_X3_parseType_37 h_r_X3_parseBranches h_r_X3_parseType hq1)) (fun _ => (PF.bnd (wy_J6_bitCount_0f7a4  hq1) (fun q3 hq3 => (PF.ite (fun _ => (PF.bnd (wy_X5_addType (by omega) hq3) (fun q5 hq5 => (wy_X3_parseType_49 h_r_X3_parseBranches h_r_X3_parseType hq5)))) (fun _ => (wy_X3_parseType_37 h_r_X3_parseBranches h_r_X3_parseType hq3)))))))))))
theorem wyR_X3_parseBranches {s : ST} : ∀ n : Nat, (∀ (p0 : Int32) (p1 : Int32) (σ : ST), KYA s σ → PF st1 (KYA s) ((R_X3_parseBranches n).1 p0 p1 σ)) ∧ (∀ (p0 : Int32) (p1 : Int32) (σ : ST), KYA s σ → PF st1 (KYA s) ((R_X3_parseBranches n).2 p0 p1 σ)) := by
  intro n
  induction n with
  | zero => exact ⟨fun _ _ _ _ => PF.none, fun _ _ _ _ => PF.none⟩
  | succ n ih => exact ⟨fun _ _ _ h => wy_X3_parseBranches (ih.1) (ih.2)  h, fun _ _ _ h => wy_X3_parseType (ih.1) (ih.2)  h⟩
theorem wy_T_X3_parseType {s : ST} {p0 : Int32} {p1 : Int32} {σ : ST} (h : KYA s σ) : PF st1 (KYA s) (f_T_X3_parseType p0 p1 σ) := (wyR_X3_parseBranches FR).2 _ _ _  h
theorem wy_X5_setType {s : ST} {b : Nat} {p0 : Int32} {p1 : Int32} {p2 : Int32} {σ : ST}  (h_b : (b = 20 ∨ 62 ≤ b)) (h : KYA s σ) : PF st0 (KYA s) (f_X5_setType b p0 p1 p2 σ) := by
  unfold f_X5_setType
  exact (PF.bnd (wy_X5_isFieldOf  h) (fun q1 hq1 => (PF.ite (fun _ => (PF.ret0 hq1)) (fun _ => (PF.ite (fun _ => (PF.ret0 (KYA.i (by omega) hq1))) (fun _ => PF.none))))))
theorem wy_X5_setFormerName {s : ST} {b : Nat} {p0 : Int32} {p1 : Int32} {p2 : Int64} {σ : ST}  (h_b : (b = 20 ∨ 62 ≤ b)) (h : KYA s σ) : PF st0 (KYA s) (f_X5_setFormerName b p0 p1 p2 σ) := by
  unfold f_X5_setFormerName
  exact (PF.bnd (wy_X5_isFieldOf  h) (fun q1 hq1 => (PF.ite (fun _ => (PF.ret0 hq1)) (fun _ => (PF.ite (fun _ => (PF.ret0 (KYA.l (by omega) hq1))) (fun _ => PF.none))))))
theorem wy_X3_parseFormerName {s : ST} {p0 : Int32} {p1 : Int32} {σ : ST}   (h : KYA s σ) : PF st1 (KYA s) (f_X3_parseFormerName p0 p1 σ) := by
  unfold f_X3_parseFormerName
  exact (PF.bnd (wy_X6_isKeyword  h) (fun q1 hq1 => (PF.ite (fun _ => (PF.ret1 hq1)) (fun _ => (PF.bnd (wy_X6_advance  hq1) (fun q3 hq3 => (PF.ite (fun _ => (PF.bnd (wy_X5_fieldName  hq3) (fun q5 hq5 => (PF.ite (fun _ => (PF.bnd (wy_X6_refuse  hq5) (fun q11 hq11 => (PF.ite (fun _ => (PF.ret1 hq11)) (fun _ => PF.none))))) (fun _ => (PF.bnd (wy_X5_setFormerName (by omega) hq5) (fun q7 hq7 => (PF.bnd (wy_X6_advance  hq7) (fun q9 hq9 => (PF.ret1 hq9)))))))))) (fun _ => (PF.bnd (wy_X6_refuse  hq3) (fun q13 hq13 => (PF.ite (fun _ => (PF.ret1 hq13)) (fun _ => PF.none))))))))))))
theorem wy_X6_beginsLiteral_52 {s : ST}  {σ : ST}   (h : KYA s σ) : PF st1 (KYA s) (f_X6_beginsLiteral_52 σ) := by
  unfold f_X6_beginsLiteral_52
  exact (PF.ret1 h)
theorem wy_X6_beginsLiteral {s : ST}  {σ : ST}   (h : KYA s σ) : PF st1 (KYA s) (f_X6_beginsLiteral σ) := by
  unfold f_X6_beginsLiteral
  exact (PF.ite (fun _ => (wy_X6_beginsLiteral_52  h)) (fun _ => (PF.ite (fun _ => (wy_X6_beginsLiteral_52  h)) (fun _ => (PF.ite (fun _ => (wy_X6_beginsLiteral_52  h)) (fun _ => (PF.bnd (wy_X6_isKeyword  h) (fun q1 hq1 => (PF.ite (fun _ => (PF.bnd (wy_X6_isKeyword  hq1) (fun q3 hq3 => (PF.ite (fun _ => (PF.bnd (wy_X6_isKeyword  hq3) (fun q5 hq5 => (PF.ite (fun _ => (PF.ret1 hq5)) (fun _ => (wy_X6_beginsLiteral_52  hq5)))))) (fun _ => (wy_X6_beginsLiteral_52  hq3)))))) (fun _ => (wy_X6_beginsLiteral_52  hq1)))))))))))
theorem wy_X6_fits_73 {s : ST}  {σ : ST}   (h : KYA s σ) : PF st1 (KYA s) (f_X6_fits_73 σ) := by
  unfold f_X6_fits_73
  exact (PF.ret1 h)
theorem wy_X6_whole {s : ST}  {σ : ST}   (h : KYA s σ) : PF st1 (KYA s) (f_X6_whole σ) := by
  unfold f_X6_whole
  exact (PF.ite (fun _ => (PF.ret1 h)) (fun _ => (PF.ret1 h)))
theorem wy_X6_fits {s : ST} {p0 : Int32} {σ : ST}   (h : KYA s σ) : PF st1 (KYA s) (f_X6_fits p0 σ) := by
  unfold f_X6_fits
  exact (PF.ite (fun _ => (PF.bnd (wy_X6_isKeyword  h) (fun q9 hq9 => (PF.ite (fun _ => (PF.ret1 hq9)) (fun _ => PF.none))))) (fun _ => (PF.ite (fun _ => (PF.bnd (wy_X6_isKeyword  h) (fun q11 hq11 => (PF.ite (fun _ => (PF.bnd (wy_X6_isKeyword  hq11) (fun q13 hq13 => (PF.ite (fun _ => (PF.ret1 hq13)) (fun _ => (wy_X6_fits_73  hq13)))))) (fun _ => (wy_X6_fits_73  hq11)))))) (fun _ => (PF.ite (fun _ => (PF.ite (fun _ => (PF.ite (fun _ => (PF.bnd (wy_X6_whole  h) (fun q15 hq15 => (PF.bnd (wy_X10_isInt  hq15) (fun q17 hq17 => (PF.ite (fun _ => (PF.ret1 hq17)) (fun _ => (PF.ret1 hq17)))))))) (fun _ => (PF.ret1 h)))) (fun _ => (PF.ret1 h)))) (fun _ => (PF.ite (fun _ => (PF.ite (fun _ => (PF.ite (fun _ => (PF.ret1 h)) (fun _ => (PF.ret1 h)))) (fun _ => (PF.ret1 h)))) (fun _ => (PF.ite (fun _ => (PF.ite (fun _ => (PF.ret1 h)) (fun _ => (PF.ret1 h)))) (fun _ => (PF.ite (fun _ => (PF.ite (fun _ => (PF.ret1 h)) (fun _ => (PF.ret1 h)))) (fun _ => (PF.ite (fun _ => (PF.ite (fun _ => (PF.ret1 h)) (fun _ => (PF.ret1 h)))) (fun _ => (PF.ite (fun _ => (PF.ite (fun _ => (PF.ret1 h)) (fun _ => (PF.ret1 h)))) (fun _ => (PF.ret1 h)))))))))))))))))
theorem wy_X6_realBits_42 {s : ST} {x1 : Int64} {σ : ST}   (h : KYA s σ) : PF st1 (KYA s) (f_X6_realBits_42 x1 σ) := by
  unfold f_X6_realBits_42
  exact (PF.ret1 h)
theorem wy_X6_realBits {s : ST}  {σ : ST}   (h : KYA s σ) : PF st1 (KYA s) (f_X6_realBits σ) := by
  unfold f_X6_realBits
  exact (PF.ite (fun _ => (PF.ite (fun _ => (PF.bnd (wy_X10_bitsOfPositive  h) (fun q3 hq3 => (PF.ite (fun _ => (PF.ret1 hq3)) (fun _ => (PF.ite (fun _ => (PF.ite (fun _ => (PF.ret1 hq3)) (fun _ => (wy_X6_realBits_42  hq3)))) (fun _ => (wy_X6_realBits_42  hq3)))))))) (fun _ => PF.none))) (fun _ => PF.none))
theorem wy_X6_worth {s : ST} {p0 : Int32} {σ : ST}   (h : KYA s σ) : PF st1 (KYA s) (f_X6_worth p0 σ) := by
  unfold f_X6_worth
  exact (PF.ite (fun _ => (PF.bnd (wy_X6_isKeyword  h) (fun q6 hq6 => (PF.ite (fun _ => (PF.ret1 hq6)) (fun _ => (PF.ret1 hq6)))))) (fun _ => (PF.ite (fun _ => (PF.bnd (wy_X6_whole  h) (fun q8 hq8 => (PF.ret1 hq8)))) (fun _ => (PF.ite (fun _ => (PF.bnd (wy_X6_whole  h) (fun q10 hq10 => (PF.ret1 hq10)))) (fun _ => (PF.ite (fun _ => (PF.bnd (wy_X6_realBits  h) (fun q12 hq12 => (PF.ret1 hq12)))) (fun _ => (PF.ite (fun _ => (PF.ret1 h)) (fun _ => (PF.ret1 h)))))))))))
theorem wy_X5_setElse {s : ST} {b : Nat} {p0 : Int32} {p1 : Int32} {p2 : Int64} {σ : ST}  (h_b : (b = 20 ∨ 62 ≤ b)) (h : KYA s σ) : PF st0 (KYA s) (f_X5_setElse b p0 p1 p2 σ) := by
  unfold f_X5_setElse
  exact (PF.bnd (wy_X5_isFieldOf  h) (fun q1 hq1 => (PF.ite (fun _ => (PF.ret0 hq1)) (fun _ => (PF.ite (fun _ => (PF.bnd (PF.ret0 (KYA.i (by omega) hq1)) (fun z4 hz4 => (PF.ite (fun _ => (PF.ret0 (KYA.l (by omega) hz4))) (fun _ => PF.none))))) (fun _ => PF.none))))))
theorem wy_X3_parseElse {s : ST} {p0 : Int32} {p1 : Int32} {σ : ST}   (h : KYA s σ) : PF st1 (KYA s) (f_X3_parseElse p0 p1 σ) := by
  unfold f_X3_parseElse
  exact (PF.bnd (wy_X6_isKeyword  h) (fun q1 hq1 => (PF.ite (fun _ => (PF.ret1 hq1)) (fun _ => (PF.bnd (wy_X6_advance  hq1) (fun q3 hq3 => (PF.bnd (wy_X6_beginsLiteral  hq3) (fun q5 hq5 => (PF.ite (fun _ => (PF.bnd (wy_X6_refuse  hq5) (fun q27 hq27 => (PF.ite (fun _ => (PF.ret1 hq27)) (fun _ => PF.none))))) (fun _ => (PF.bnd (wy_X5_typeOf  hq5) (fun q7 hq7 => (PF.bnd (wy_X5_firstChoice  hq7) (fun q9 hq9 => (PF.bnd (wy_X5_sortOf  hq9) (fun q11 hq11 => (PF.bnd (wy_X6_fits  hq11) (fun q13 hq13 => (PF.ite (fun _ => (PF.bnd (wy_X6_refuse  hq13) (fun q25 hq25 => (PF.ite (fun _ => (PF.ret1 hq25)) (fun _ => PF.none))))) (fun _ => (PF.bnd (wy_X6_worth  hq13) (fun q15 hq15 => (PF.bnd (wy_X5_setElse (by omega) hq15) (fun q17 hq17 => (PF.bnd (wy_X6_advance  hq17) (fun q19 hq19 => (PF.ite (fun _ => (PF.ite (fun _ => (PF.bnd (wy_X6_advance  hq19) (fun q21 hq21 => (PF.ret1 hq21)))) (fun _ => (PF.bnd (wy_X6_refuse  hq19) (fun q23 hq23 => (PF.ite (fun _ => (PF.ret1 hq23)) (fun _ => PF.none))))))) (fun _ => (PF.ret1 hq19)))))))))))))))))))))))))))))
theorem wy_X3_parseField {s : ST} {p0 : Int32} {p1 : Int32} {σ : ST}   (h : KYA s σ) : PF st1 (KYA s) (f_X3_parseField p0 p1 σ) := by
  unfold f_X3_parseField
  exact (PF.ite (fun _ => (PF.bnd (wy_X5_fieldNamed  h) (fun q1 hq1 => (PF.ite (fun _ => (PF.ite (fun _ => (PF.bnd (wy_X5_addField (by omega) hq1) (fun q3 hq3 => (PF.bnd (wy_X6_advance  hq3) (fun q5 hq5 => (PF.bnd (wy_T_X3_parseType hq5) (fun q7 hq7 => (PF.ite (fun _ => (PF.ret1 hq7)) (fun _ => (PF.bnd (wy_X5_setType (by omega) hq7) (fun q9 hq9 => (PF.bnd (wy_X3_parseFormerName  hq9) (fun q11 hq11 => (PF.ite (fun _ => (PF.ret1 hq11)) (fun _ => (PF.bnd (wy_X3_parseElse  hq11) (fun q13 hq13 => (PF.ite (fun _ => (PF.ret1 hq13)) (fun _ => (PF.ret1 hq13)))))))))))))))))))) (fun _ => (PF.bnd (wy_X6_refuse  hq1) (fun q15 hq15 => (PF.ite (fun _ => (PF.ret1 hq15)) (fun _ => PF.none))))))) (fun _ => (PF.bnd (wy_X6_refuse  hq1) (fun q17 hq17 => (PF.ite (fun _ => (PF.ret1 hq17)) (fun _ => PF.none))))))))) (fun _ => (PF.bnd (wy_X6_refuse  h) (fun q19 hq19 => (PF.ite (fun _ => (PF.ret1 hq19)) (fun _ => PF.none))))))
theorem wy_X3_parseRecord_108 {s : ST}    : ∀ (n : Nat) (x1 : Int32) (x2 : Int32) (σ : ST), KYA s σ → PF st1 (KYA s) (f_X3_parseRecord_108  n x1 x2 σ) := by
  intro n
  induction n with
  | zero => intro x1 x2 σ h; rw [f_X3_parseRecord_108]; exact PF.none
  | succ n ih =>
    intro x1 x2 σ h
    rw [f_X3_parseRecord_108]
    exact (PF.ite (fun _ => (PF.ret1 h)) (fun _ => (PF.bnd (wy_X6_advance  h) (fun q1 hq1 => (PF.bnd (wy_X3_parseField  hq1) (fun q3 hq3 => (PF.ite (fun _ => (PF.ret1 hq3)) (fun _ => (PF.ite (fun _ => (PF.bnd (wy_X6_advance  hq3) (fun q7 hq7 => (PF.ret1 hq7)))) (fun _ => (PF.ite (fun _ => (ih _ _ _ hq3)) (fun _ => (PF.bnd (wy_X6_refuse  hq3) (fun q5 hq5 => (PF.ite (fun _ => (PF.ret1 hq5)) (fun _ => PF.none))))))))))))))))
theorem wy_X3_parseRecord {s : ST} {p0 : Int32} {σ : ST}   (h : KYA s σ) : PF st1 (KYA s) (f_X3_parseRecord p0 σ) := by
  unfold f_X3_parseRecord
  exact (PF.bnd (wy_X5_recordsOf  h) (fun q1 hq1 => (PF.ite (fun _ => (PF.bnd (wy_X6_advance  hq1) (fun q3 hq3 => (PF.ite (fun _ => (PF.bnd (wy_X5_recordNamed  hq3) (fun q5 hq5 => (PF.ite (fun _ => (PF.bnd (wy_X5_recordsOf  hq5) (fun q7 hq7 => (PF.bnd (wy_X5_addRecord (by omega) hq7) (fun q9 hq9 => (wy_X3_parseRecord_108  _ _ _ _ hq9)))))) (fun _ => (PF.bnd (wy_X6_refuse  hq5) (fun q11 hq11 => (PF.ite (fun _ => (PF.ret1 hq11)) (fun _ => PF.none))))))))) (fun _ => (PF.bnd (wy_X6_refuse  hq3) (fun q13 hq13 => (PF.ite (fun _ => (PF.ret1 hq13)) (fun _ => PF.none))))))))) (fun _ => (PF.bnd (wy_X6_refuse  hq1) (fun q15 hq15 => (PF.ite (fun _ => (PF.ret1 hq15)) (fun _ => PF.none))))))))
theorem wy_X3_parse_33 {s : ST} {k11 : Int32 → Int32 → ST → Option (Int32 × ST)} {x1 : Int32} {x2 : Int32} {y0 : Int32} {σ : ST} (h_k11 : ∀ (x1 : Int32) (x2 : Int32) (σ : ST), KYA s σ → PF st1 (KYA s) (k11 x1 x2 σ))  (h : KYA s σ) : PF st1 (KYA s) (f_X3_parse_33 k11 x1 x2 y0 σ) := by
  unfold f_X3_parse_33
  exact (PF.ite (fun _ => (wy_X3_parse_60 h_k11 h)) (fun _ => (PF.bnd (wy_X6_isKeyword  h) (fun q1 hq1 => (PF.ite (fun _ => (wy_X3_parse_60 h_k11 hq1)) (fun _ => (PF.bnd (wy_X3_parseRecord  hq1) (fun q3 hq3 => (PF.ite (fun _ => (PF.ret1 hq3)) (fun _ => (wy_X3_parse_157 h_k11 hq3)))))))))))
theorem wy_X3_parse_11 {s : ST}    : ∀ (n : Nat) (x1 : Int32) (x2 : Int32) (σ : ST), KYA s σ → PF st1 (KYA s) (f_X3_parse_11  n x1 x2 σ) := by
  intro n
  induction n with
  | zero => intro x1 x2 σ h; rw [f_X3_parse_11]; exact PF.none
  | succ n ih =>
    intro x1 x2 σ h
    rw [f_X3_parse_11]
    exact (PF.ite (fun _ => (PF.ret1 h)) (fun _ => (PF.bnd (wy_X5_recordsOf  h) (fun q1 hq1 => (PF.ite (fun _ => (wy_X3_parse_33 ih hq1)) (fun _ => (wy_X3_parse_33 ih hq1)))))))
theorem wy_X3_parse {s : ST}  {σ : ST}   (h : KYA s σ) : PF st1 (KYA s) (f_X3_parse σ) := by
  unfold f_X3_parse
  exact (PF.bnd (wy_X5_clear (by omega) h) (fun q1 hq1 => (wy_X3_parse_11  _ _ _ _ hq1)))
theorem wy_X6_faultAnswer {s : ST}  {σ : ST}   (h : KYA s σ) : PF st1 (KYA s) (f_X6_faultAnswer σ) := by
  unfold f_X6_faultAnswer
  exact (PF.ret1 h)
theorem wkz_X1_isNumber {s : ST} {p0 : Int32} {σ : ST}   (h : KZA s σ) : PF st1 (KZA s) (f_X1_isNumber p0 σ) := by
  unfold f_X1_isNumber
  exact (PF.ite (fun _ => (PF.ret1 h)) (fun _ => (PF.ite (fun _ => (PF.ret1 h)) (fun _ => (PF.ret1 h)))))
theorem wkz_X10_isPlan {s : ST} {p0 : Int32} {σ : ST}   (h : KZA s σ) : PF st1 (KZA s) (f_X10_isPlan p0 σ) := by
  unfold f_X10_isPlan
  exact (PF.ite (fun _ => (PF.ret1 h)) (fun _ => (PF.ite (fun _ => (PF.ret1 h)) (fun _ => (PF.ret1 h)))))
theorem wkz_X6_signAt {s : ST} {p0 : Int32} {σ : ST}   (h : KZA s σ) : PF st1 (KZA s) (f_X6_signAt p0 σ) := by
  unfold f_X6_signAt
  exact (PF.ite (fun _ => (PF.ret1 h)) (fun _ => (PF.ite (fun _ => (PF.ret1 h)) (fun _ => (PF.ite (fun _ => (PF.ret1 h)) (fun _ => (PF.ite (fun _ => (PF.ret1 h)) (fun _ => PF.none))))))))
theorem wkz_X6_isLetter {s : ST} {p0 : Int32} {σ : ST}   (h : KZA s σ) : PF st1 (KZA s) (f_X6_isLetter p0 σ) := by
  unfold f_X6_isLetter
  exact (PF.ite (fun _ => (PF.ret1 h)) (fun _ => (PF.ite (fun _ => (PF.ret1 h)) (fun _ => (PF.ret1 h)))))
theorem wkz_X6_isDigit {s : ST} {p0 : Int32} {σ : ST}   (h : KZA s σ) : PF st1 (KZA s) (f_X6_isDigit p0 σ) := by
  unfold f_X6_isDigit
  exact (PF.ite (fun _ => (PF.ret1 h)) (fun _ => (PF.ite (fun _ => (PF.ret1 h)) (fun _ => (PF.ret1 h)))))
theorem wkz_X6_scanNumber_189 {s : ST} {x1 : Int32} {σ : ST}   (h : KZA s σ) : PF st0 (KZA s) (f_X6_scanNumber_189 x1 σ) := by
  unfold f_X6_scanNumber_189
  exact (PF.ret0 (KZA.i (by omega) (KZA.i (by omega) h)))
theorem wkz_X6_scanNumber_119 {s : ST} {x1 : Int32} {x2 : Int32} {σ : ST}   (h : KZA s σ) : PF st0 (KZA s) (f_X6_scanNumber_119 x1 x2 σ) := by
  unfold f_X6_scanNumber_119
  exact (PF.ite (fun _ => (PF.ret0 h)) (fun _ => (PF.ite (fun _ => (PF.bnd (wkz_X6_signAt  h) (fun q1 hq1 => (PF.ite (fun _ => (PF.bnd (wkz_X6_signAt  hq1) (fun q3 hq3 => (PF.bnd (wkz_X6_isDigit  hq3) (fun q5 hq5 => (PF.ite (fun _ => (PF.ret0 hq5)) (fun _ => (PF.bnd (wkz_X6_signAt  hq5) (fun q7 hq7 => (PF.bnd (wkz_X6_isDigit  hq7) (fun q9 hq9 => (PF.ite (fun _ => (PF.bnd (wkz_X6_signAt  (KZA.i (by omega) hq9)) (fun q11 hq11 => (wkz_X6_scanNumber_189  (KZA.i (by omega) hq11))))) (fun _ => (PF.ret0 hq9)))))))))))))) (fun _ => (wkz_X6_scanNumber_189  hq1)))))) (fun _ => (PF.ret0 h)))))
theorem wkz_X6_scanNumber_110 {s : ST} {k65 : Int32 → Int32 → ST → Option (ST)} {x1 : Int32} {x2 : Int32} {σ : ST} (h_k65 : ∀ (x1 : Int32) (x2 : Int32) (σ : ST), KZA s σ → PF st0 (KZA s) (k65 x1 x2 σ))  (h : KZA s σ) : PF st0 (KZA s) (f_X6_scanNumber_110 k65 x1 x2 σ) := by
  unfold f_X6_scanNumber_110
  exact (h_k65 _ _ _ h)
theorem wkz_X6_scanNumber_65 {s : ST}    : ∀ (n : Nat) (x1 : Int32) (x2 : Int32) (σ : ST), KZA s σ → PF st0 (KZA s) (f_X6_scanNumber_65  n x1 x2 σ) := by
  intro n
  induction n with
  | zero => intro x1 x2 σ h; rw [f_X6_scanNumber_65]; exact PF.none
  | succ n ih =>
    intro x1 x2 σ h
    rw [f_X6_scanNumber_65]
    exact (PF.ite (fun _ => (wkz_X6_scanNumber_119  h)) (fun _ => (PF.bnd (wkz_X6_signAt  h) (fun q1 hq1 => (PF.bnd (wkz_X6_isDigit  hq1) (fun q3 hq3 => (PF.ite (fun _ => (wkz_X6_scanNumber_119  hq3)) (fun _ => (PF.ite (fun _ => (wkz_X6_scanNumber_110 ih hq3)) (fun _ => (PF.bnd (wkz_X6_signAt  hq3) (fun q5 hq5 => (wkz_X6_scanNumber_110 ih (KZA.l (by omega) hq5))))))))))))))
theorem wkz_X6_scanNumber_62 {s : ST} {y0 : Int32} {σ : ST}   (h : KZA s σ) : PF st0 (KZA s) (f_X6_scanNumber_62 y0 σ) := by
  unfold f_X6_scanNumber_62
  exact (wkz_X6_scanNumber_65  _ _ _ _ h)
theorem wkz_X6_scanNumber_19 {s : ST} {y0 : Int32} {σ : ST}   (h : KZA s σ) : PF st0 (KZA s) (f_X6_scanNumber_19 y0 σ) := by
  unfold f_X6_scanNumber_19
  exact (PF.ite (fun _ => (PF.ite (fun _ => (wkz_X6_scanNumber_62  (KZA.i (by omega) (KZA.l (by omega) (KZA.i (by omega) (KZA.i (by omega) (KZA.i (by omega) h))))))) (fun _ => (wkz_X6_scanNumber_62  (KZA.i (by omega) (KZA.l (by omega) (KZA.i (by omega) (KZA.i (by omega) (KZA.i (by omega) h))))))))) (fun _ => PF.none))
theorem wkz_X6_scanNumber {s : ST}  {σ : ST}   (h : KZA s σ) : PF st0 (KZA s) (f_X6_scanNumber σ) := by
  unfold f_X6_scanNumber
  exact (PF.bnd (wkz_X6_signAt  h) (fun q1 hq1 => (PF.ite (fun _ => (wkz_X6_scanNumber_19  hq1)) (fun _ => (wkz_X6_scanNumber_19  hq1)))))
theorem wkz_X6_advance_113 {s : ST}  {σ : ST}   (h : KZA s σ) : PF st0 (KZA s) (f_X6_advance_113 σ) := by
  unfold f_X6_advance_113
  exact (PF.bnd (wkz_X6_scanNumber  h) (fun q1 hq1 => (PF.ret0 hq1)))
theorem wkz_X6_takeLetters_95 {s : ST} {k7 : Int32 → Int32 → Int32 → ST → Option (Int32 × ST)} {x1 : Int32} {x2 : Int32} {x3 : Int32} {σ : ST} (h_k7 : ∀ (x1 : Int32) (x2 : Int32) (x3 : Int32) (σ : ST), KZA s σ → PF st1 (KZA s) (k7 x1 x2 x3 σ))  (h : KZA s σ) : PF st1 (KZA s) (f_X6_takeLetters_95 k7 x1 x2 x3 σ) := by
  unfold f_X6_takeLetters_95
  exact (h_k7 _ _ _ _ h)
theorem wkz_X6_takeLetters_57 {s : ST} {k7 : Int32 → Int32 → Int32 → ST → Option (Int32 × ST)} {x1 : Int32} {x2 : Int32} {x3 : Int32} {y0 : Int32} {σ : ST} (h_k7 : ∀ (x1 : Int32) (x2 : Int32) (x3 : Int32) (σ : ST), KZA s σ → PF st1 (KZA s) (k7 x1 x2 x3 σ))  (h : KZA s σ) : PF st1 (KZA s) (f_X6_takeLetters_57 k7 x1 x2 x3 y0 σ) := by
  unfold f_X6_takeLetters_57
  exact (PF.ite (fun _ => (PF.ret1 h)) (fun _ => (PF.ite (fun _ => (PF.ite (fun _ => (wkz_X6_takeLetters_95 h_k7 h)) (fun _ => (wkz_X6_takeLetters_95 h_k7 (KZA.l (by omega) h))))) (fun _ => (PF.ret1 h)))))
theorem wkz_X6_takeLetters_56 {s : ST} {k7 : Int32 → Int32 → Int32 → ST → Option (Int32 × ST)} {x1 : Int32} {x2 : Int32} {x3 : Int32} {σ : ST} (h_k7 : ∀ (x1 : Int32) (x2 : Int32) (x3 : Int32) (σ : ST), KZA s σ → PF st1 (KZA s) (k7 x1 x2 x3 σ))  (h : KZA s σ) : PF st1 (KZA s) (f_X6_takeLetters_56 k7 x1 x2 x3 σ) := by
  unfold f_X6_takeLetters_56
  exact (wkz_X6_takeLetters_57 h_k7 h)
theorem wkz_X6_takeLetters_7 {s : ST}    : ∀ (n : Nat) (x1 : Int32) (x2 : Int32) (x3 : Int32) (σ : ST), KZA s σ → PF st1 (KZA s) (f_X6_takeLetters_7  n x1 x2 x3 σ) := by
  intro n
  induction n with
  | zero => intro x1 x2 x3 σ h; rw [f_X6_takeLetters_7]; exact PF.none
  | succ n ih =>
    intro x1 x2 x3 σ h
    rw [f_X6_takeLetters_7]
    exact (PF.ite (fun _ => (PF.ret1 h)) (fun _ => (PF.ite (fun _ => (wkz_X6_takeLetters_56 ih h)) (fun _ => (PF.ite (fun _ => (wkz_X6_takeLetters_56 ih h)) (fun _ => (PF.ite (fun _ => (wkz_X6_takeLetters_56 ih h)) (fun _ => (PF.ite (fun _ => (wkz_X6_takeLetters_57 ih h)) (fun _ => PF.none))))))))))
theorem wkz_X6_takeLetters {s : ST} {p0 : Int32} {p1 : Int32} {σ : ST}   (h : KZA s σ) : PF st1 (KZA s) (f_X6_takeLetters p0 p1 σ) := by
  unfold f_X6_takeLetters
  exact (wkz_X6_takeLetters_7  _ _ _ _ _ (KZA.l (by omega) h))
theorem wkz_X6_scanLettered_38 {s : ST}  {σ : ST}   (h : KZA s σ) : PF st0 (KZA s) (f_X6_scanLettered_38 σ) := by
  unfold f_X6_scanLettered_38
  exact (PF.ret0 (KZA.i (by omega) h))
theorem wkz_X6_scanLettered {s : ST}  {σ : ST}   (h : KZA s σ) : PF st0 (KZA s) (f_X6_scanLettered σ) := by
  unfold f_X6_scanLettered
  exact (PF.bnd (wkz_X6_takeLetters  h) (fun q1 hq1 => (PF.ite (fun _ => (wkz_X6_scanLettered_38  hq1)) (fun _ => (PF.bnd (wkz_X6_signAt  hq1) (fun q3 hq3 => (PF.ite (fun _ => (PF.ret0 (KZA.i (by omega) (KZA.i (by omega) hq3)))) (fun _ => (wkz_X6_scanLettered_38  hq3)))))))))
theorem wkz_X6_advance_169 {s : ST} {x1 : Int32} {σ : ST}   (h : KZA s σ) : PF st0 (KZA s) (f_X6_advance_169 x1 σ) := by
  unfold f_X6_advance_169
  exact (PF.ret0 (KZA.i (by omega) (KZA.i (by omega) h)))
theorem wkz_X6_scanWord_75 {s : ST} {k45 : Int32 → ST → Option (ST)} {x2 : Int32} {σ : ST} (h_k45 : ∀ (x1 : Int32) (σ : ST), KZA s σ → PF st0 (KZA s) (k45 x1 σ))  (h : KZA s σ) : PF st0 (KZA s) (f_X6_scanWord_75 k45 x2 σ) := by
  unfold f_X6_scanWord_75
  exact (h_k45 _ _ h)
theorem wkz_X6_scanWord_45 {s : ST}    : ∀ (n : Nat) (x1 : Int32) (σ : ST), KZA s σ → PF st0 (KZA s) (f_X6_scanWord_45  n x1 σ) := by
  intro n
  induction n with
  | zero => intro x1 σ h; rw [f_X6_scanWord_45]; exact PF.none
  | succ n ih =>
    intro x1 σ h
    rw [f_X6_scanWord_45]
    exact (PF.ite (fun _ => (PF.ret0 h)) (fun _ => (PF.ite (fun _ => (PF.ite (fun _ => (wkz_X6_scanWord_75 ih (KZA.i (by omega) (KZA.i (by omega) h)))) (fun _ => (wkz_X6_scanWord_75 ih h)))) (fun _ => PF.none))))
theorem wkz_X6_scanWord {s : ST}  {σ : ST}   (h : KZA s σ) : PF st0 (KZA s) (f_X6_scanWord σ) := by
  unfold f_X6_scanWord
  exact (PF.bnd (wkz_X6_takeLetters  h) (fun q1 hq1 => (PF.ite (fun _ => (wkz_X6_scanWord_45  _ _ _ (KZA.i (by omega) (KZA.i (by omega) (KZA.i (by omega) hq1))))) (fun _ => (PF.ret0 (KZA.i (by omega) hq1))))))
theorem wkz_X6_advance_50 {s : ST}  {σ : ST}   (h : KZA s σ) : PF st0 (KZA s) (f_X6_advance_50 σ) := by
  unfold f_X6_advance_50
  exact (PF.bnd (wkz_X6_signAt  (KZA.i (by omega) h)) (fun q1 hq1 => (PF.ite (fun _ => (PF.bnd (wkz_X6_isLetter  hq1) (fun q3 hq3 => (PF.ite (fun _ => (PF.ite (fun _ => (wkz_X6_advance_113  hq3)) (fun _ => (PF.bnd (wkz_X6_isDigit  hq3) (fun q5 hq5 => (PF.ite (fun _ => (PF.ite (fun _ => (PF.bnd (wkz_X6_scanLettered  hq5) (fun q7 hq7 => (PF.ret0 hq7)))) (fun _ => (PF.ite (fun _ => (wkz_X6_advance_169  hq5)) (fun _ => (PF.ite (fun _ => (wkz_X6_advance_169  hq5)) (fun _ => (PF.ite (fun _ => (wkz_X6_advance_169  hq5)) (fun _ => (PF.ite (fun _ => (wkz_X6_advance_169  hq5)) (fun _ => (PF.ite (fun _ => (wkz_X6_advance_169  hq5)) (fun _ => (PF.ite (fun _ => (wkz_X6_advance_169  hq5)) (fun _ => (PF.ret0 (KZA.i (by omega) hq5))))))))))))))))) (fun _ => (wkz_X6_advance_113  hq5)))))))) (fun _ => (PF.bnd (wkz_X6_scanWord  hq3) (fun q9 hq9 => (PF.ret0 hq9)))))))) (fun _ => (PF.ret0 (KZA.i (by omega) hq1))))))
theorem wkz_X6_advance_37 {s : ST} {k0 : ST → Option (ST)} {σ : ST} (h_k0 : ∀ (σ : ST), KZA s σ → PF st0 (KZA s) (k0 σ))  (h : KZA s σ) : PF st0 (KZA s) (f_X6_advance_37 k0 σ) := by
  unfold f_X6_advance_37
  exact (h_k0 _ (KZA.i (by omega) h))
theorem wkz_X6_advance_0 {s : ST}    : ∀ (n : Nat) (σ : ST), KZA s σ → PF st0 (KZA s) (f_X6_advance_0  n σ) := by
  intro n
  induction n with
  | zero => intro σ h; rw [f_X6_advance_0]; exact PF.none
  | succ n ih =>
    intro σ h
    rw [f_X6_advance_0]
    exact (PF.ite (fun _ => (wkz_X6_advance_50  h)) (fun _ => (PF.bnd (wkz_X6_signAt  h) (fun q1 hq1 => (PF.ite (fun _ => (wkz_X6_advance_37 ih hq1)) (fun _ => (PF.bnd (wkz_X6_signAt  hq1) (fun q3 hq3 => (PF.ite (fun _ => (wkz_X6_advance_37 ih hq3)) (fun _ => (wkz_X6_advance_50  hq3)))))))))))
theorem wkz_X6_advance {s : ST}  {σ : ST}   (h : KZA s σ) : PF st0 (KZA s) (f_X6_advance σ) := by
  unfold f_X6_advance
  exact (wkz_X6_advance_0  _ _ h)
theorem wkz_X6_begin {s : ST} {p0 : Int32} {σ : ST}   (h : KZA s σ) : PF st0 (KZA s) (f_X6_begin p0 σ) := by
  unfold f_X6_begin
  exact (PF.bnd (wkz_X6_advance  (KZA.i (by omega) (KZA.i (by omega) (KZA.i (by omega) (KZA.i (by omega) h))))) (fun q1 hq1 => (PF.ret0 hq1)))
theorem wkz_X5_rootType {s : ST} {b : Nat} {p0 : Int32} {σ : ST}   (h : KZA s σ) : PF st1 (KZA s) (f_X5_rootType b p0 σ) := by
  unfold f_X5_rootType
  exact (PF.ite (fun _ => (PF.ret1 h)) (fun _ => (PF.ite (fun _ => (PF.ret1 h)) (fun _ => (PF.ite (fun _ => (PF.ret1 h)) (fun _ => PF.none))))))
theorem wkz_X7_clear {s : ST} {b : Nat} {σ : ST}  (h_b : (b = 20 ∨ 62 ≤ b)) (h : KZA s σ) : PF st0 (KZA s) (f_X7_clear b σ) := by
  unfold f_X7_clear
  exact (PF.ret0 (KZA.i (by omega) h))
theorem wkz_X5_isRecord {s : ST} {p0 : Int32} {σ : ST}   (h : KZA s σ) : PF st1 (KZA s) (f_X5_isRecord p0 σ) := by
  unfold f_X5_isRecord
  exact (PF.ite (fun _ => (PF.ret1 h)) (fun _ => (PF.ite (fun _ => (PF.ret1 h)) (fun _ => (PF.ret1 h)))))
theorem wkz_X5_fieldsOf {s : ST} {b : Nat} {p0 : Int32} {σ : ST}   (h : KZA s σ) : PF st1 (KZA s) (f_X5_fieldsOf b p0 σ) := by
  unfold f_X5_fieldsOf
  exact (PF.bnd (wkz_X5_isRecord  h) (fun q1 hq1 => (PF.ite (fun _ => (PF.ret1 hq1)) (fun _ => (PF.ite (fun _ => (PF.ret1 hq1)) (fun _ => PF.none))))))
theorem wkz_X5_isFieldOf {s : ST} {p0 : Int32} {p1 : Int32} {σ : ST}   (h : KZA s σ) : PF st1 (KZA s) (f_X5_isFieldOf p0 p1 σ) := by
  unfold f_X5_isFieldOf
  exact (PF.ite (fun _ => (PF.ret1 h)) (fun _ => (PF.ite (fun _ => (PF.ret1 h)) (fun _ => (PF.ite (fun _ => (PF.ret1 h)) (fun _ => (PF.ite (fun _ => (PF.ret1 h)) (fun _ => (PF.ret1 h)))))))))
theorem wkz_X5_hasElse {s : ST} {b : Nat} {p0 : Int32} {p1 : Int32} {σ : ST}   (h : KZA s σ) : PF st1 (KZA s) (f_X5_hasElse b p0 p1 σ) := by
  unfold f_X5_hasElse
  exact (PF.bnd (wkz_X5_isFieldOf  h) (fun q1 hq1 => (PF.ite (fun _ => (PF.ret1 hq1)) (fun _ => (PF.ite (fun _ => (PF.ite (fun _ => (PF.ret1 hq1)) (fun _ => (PF.ret1 hq1)))) (fun _ => PF.none))))))
theorem wkz_X6_refuseAt {s : ST} {p0 : Int32} {p1 : Int32} {σ : ST}   (h : KZA s σ) : PF st1 (KZA s) (f_X6_refuseAt p0 p1 σ) := by
  unfold f_X6_refuseAt
  exact (PF.ite (fun _ => (PF.ret1 (KZA.i (by omega) (KZA.i (by omega) h)))) (fun _ => (PF.ret1 h)))
theorem wkz_X6_refuse {s : ST} {p0 : Int32} {σ : ST}   (h : KZA s σ) : PF st1 (KZA s) (f_X6_refuse p0 σ) := by
  unfold f_X6_refuse
  exact (PF.bnd (wkz_X6_refuseAt  h) (fun q1 hq1 => (PF.ite (fun _ => (PF.ret1 hq1)) (fun _ => PF.none))))
theorem wkz_X8_closeRecord_44 {s : ST} {k2 : Int32 → Int32 → Int32 → ST → Option (Int32 × ST)} {x1 : Int32} {x2 : Int32} {x3 : Int32} {σ : ST} (h_k2 : ∀ (x1 : Int32) (x2 : Int32) (x3 : Int32) (σ : ST), KZA s σ → PF st1 (KZA s) (k2 x1 x2 x3 σ))  (h : KZA s σ) : PF st1 (KZA s) (f_X8_closeRecord_44 k2 x1 x2 x3 σ) := by
  unfold f_X8_closeRecord_44
  exact (h_k2 _ _ _ _ h)
theorem wkz_X8_closeRecord_2 {s : ST}    : ∀ (n : Nat) (x1 : Int32) (x2 : Int32) (x3 : Int32) (σ : ST), KZA s σ → PF st1 (KZA s) (f_X8_closeRecord_2  n x1 x2 x3 σ) := by
  intro n
  induction n with
  | zero => intro x1 x2 x3 σ h; rw [f_X8_closeRecord_2]; exact PF.none
  | succ n ih =>
    intro x1 x2 x3 σ h
    rw [f_X8_closeRecord_2]
    exact (PF.bnd (wkz_X5_fieldsOf  h) (fun q1 hq1 => (PF.ite (fun _ => (PF.bnd (wkz_X6_advance  hq1) (fun q3 hq3 => (PF.ret1 hq3)))) (fun _ => (PF.ite (fun _ => (PF.bnd (wkz_X5_hasElse  hq1) (fun q5 hq5 => (PF.ite (fun _ => (PF.bnd (wkz_X6_refuse  hq5) (fun q7 hq7 => (PF.ite (fun _ => (PF.ret1 hq7)) (fun _ => PF.none))))) (fun _ => (wkz_X8_closeRecord_44 ih hq5)))))) (fun _ => (wkz_X8_closeRecord_44 ih hq1)))))))
theorem wkz_X8_closeRecord {s : ST} {p0 : Int32} {p1 : Int32} {σ : ST}   (h : KZA s σ) : PF st1 (KZA s) (f_X8_closeRecord p0 p1 σ) := by
  unfold f_X8_closeRecord
  exact (wkz_X8_closeRecord_2  _ _ _ _ _ h)
theorem wkz_X8_parseFields_210 {s : ST} {r_X8_parseFields : Int32 → Int32 → Int32 → ST → Option (Int32 × ST)} {r_X8_parseItems : Int32 → Int32 → Int32 → ST → Option (Int32 × ST)} {r_X8_parseValue : Int32 → Int32 → Int32 → Int32 → ST → Option (Int32 × ST)} {x1 : Int32} {x4 : Int32} {σ : ST} (h_r_X8_parseFields : ∀ (x1 : Int32) (x2 : Int32) (x3 : Int32) (σ : ST), KZA s σ → PF st1 (KZA s) (r_X8_parseFields x1 x2 x3 σ)) (h_r_X8_parseItems : ∀ (x1 : Int32) (x2 : Int32) (x3 : Int32) (σ : ST), KZA s σ → PF st1 (KZA s) (r_X8_parseItems x1 x2 x3 σ)) (h_r_X8_parseValue : ∀ (x1 : Int32) (x2 : Int32) (x3 : Int32) (x4 : Int32) (σ : ST), KZA s σ → PF st1 (KZA s) (r_X8_parseValue x1 x2 x3 x4 σ))  (h : KZA s σ) : PF st1 (KZA s) (f_X8_parseFields_210 r_X8_parseFields r_X8_parseItems r_X8_parseValue x1 x4 σ) := by
  unfold f_X8_parseFields_210
  exact (PF.bnd (wkz_X8_closeRecord  h) (fun q1 hq1 => (PF.ite (fun _ => (PF.ret1 hq1)) (fun _ => PF.none))))
theorem wkz_X5_fieldNamed_29 {s : ST} {b : Nat}   : ∀ (n : Nat) (x1 : Int64) (x2 : Int32) (x3 : Int32) (x4 : Int32) (σ : ST), KZA s σ → PF st1 (KZA s) (f_X5_fieldNamed_29 b n x1 x2 x3 x4 σ) := by
  intro n
  induction n with
  | zero => intro x1 x2 x3 x4 σ h; rw [f_X5_fieldNamed_29]; exact PF.none
  | succ n ih =>
    intro x1 x2 x3 x4 σ h
    rw [f_X5_fieldNamed_29]
    exact (PF.ite (fun _ => (PF.ret1 h)) (fun _ => (PF.ite (fun _ => (PF.ret1 h)) (fun _ => (PF.ite (fun _ => (PF.ite (fun _ => (PF.ret1 h)) (fun _ => (ih _ _ _ _ _ h)))) (fun _ => PF.none))))))
theorem wkz_X5_fieldNamed_24 {s : ST} {b : Nat} {x2 : Int64} {x4 : Int32} {y0 : Int32} {σ : ST}   (h : KZA s σ) : PF st1 (KZA s) (f_X5_fieldNamed_24 b x2 x4 y0 σ) := by
  unfold f_X5_fieldNamed_24
  exact (wkz_X5_fieldNamed_29  _ _ _ _ _ _ h)
theorem wkz_X5_fieldNamed {s : ST} {b : Nat} {p0 : Int32} {p1 : Int64} {σ : ST}   (h : KZA s σ) : PF st1 (KZA s) (f_X5_fieldNamed b p0 p1 σ) := by
  unfold f_X5_fieldNamed
  exact (PF.bnd (wkz_X5_isFieldOf  h) (fun q1 hq1 => (PF.ite (fun _ => (wkz_X5_fieldNamed_24  hq1)) (fun _ => (PF.ite (fun _ => (wkz_X5_fieldNamed_24  hq1)) (fun _ => PF.none))))))
theorem wkz_X8_parseFields_90 {s : ST} {r_X8_parseFields : Int32 → Int32 → Int32 → ST → Option (Int32 × ST)} {r_X8_parseItems : Int32 → Int32 → Int32 → ST → Option (Int32 × ST)} {r_X8_parseValue : Int32 → Int32 → Int32 → Int32 → ST → Option (Int32 × ST)} {σ : ST} (h_r_X8_parseFields : ∀ (x1 : Int32) (x2 : Int32) (x3 : Int32) (σ : ST), KZA s σ → PF st1 (KZA s) (r_X8_parseFields x1 x2 x3 σ)) (h_r_X8_parseItems : ∀ (x1 : Int32) (x2 : Int32) (x3 : Int32) (σ : ST), KZA s σ → PF st1 (KZA s) (r_X8_parseItems x1 x2 x3 σ)) (h_r_X8_parseValue : ∀ (x1 : Int32) (x2 : Int32) (x3 : Int32) (x4 : Int32) (σ : ST), KZA s σ → PF st1 (KZA s) (r_X8_parseValue x1 x2 x3 x4 σ))  (h : KZA s σ) : PF st1 (KZA s) (f_X8_parseFields_90 r_X8_parseFields r_X8_parseItems r_X8_parseValue σ) := by
  unfold f_X8_parseFields_90
  exact (PF.bnd (wkz_X6_refuse  h) (fun q1 hq1 => (PF.ite (fun _ => (PF.ret1 hq1)) (fun _ => PF.none))))
theorem wkz_X5_typeOf {s : ST} {b : Nat} {p0 : Int32} {p1 : Int32} {σ : ST}   (h : KZA s σ) : PF st1 (KZA s) (f_X5_typeOf b p0 p1 σ) := by
  unfold f_X5_typeOf
  exact (PF.bnd (wkz_X5_isFieldOf  h) (fun q1 hq1 => (PF.ite (fun _ => (PF.ret1 hq1)) (fun _ => (PF.ite (fun _ => (PF.ret1 hq1)) (fun _ => PF.none))))))
theorem wkz_X8_parseFields_204 {s : ST} {r_X8_parseFields : Int32 → Int32 → Int32 → ST → Option (Int32 × ST)} {r_X8_parseItems : Int32 → Int32 → Int32 → ST → Option (Int32 × ST)} {r_X8_parseValue : Int32 → Int32 → Int32 → Int32 → ST → Option (Int32 × ST)} {k25 : Int32 → Int32 → Int32 → Int32 → Int32 → Int32 → ST → Option (Int32 × ST)} {x1 : Int32} {x2 : Int32} {x3 : Int32} {x4 : Int32} {x5 : Int32} {x6 : Int32} {σ : ST} (h_r_X8_parseFields : ∀ (x1 : Int32) (x2 : Int32) (x3 : Int32) (σ : ST), KZA s σ → PF st1 (KZA s) (r_X8_parseFields x1 x2 x3 σ)) (h_r_X8_parseItems : ∀ (x1 : Int32) (x2 : Int32) (x3 : Int32) (σ : ST), KZA s σ → PF st1 (KZA s) (r_X8_parseItems x1 x2 x3 σ)) (h_r_X8_parseValue : ∀ (x1 : Int32) (x2 : Int32) (x3 : Int32) (x4 : Int32) (σ : ST), KZA s σ → PF st1 (KZA s) (r_X8_parseValue x1 x2 x3 x4 σ)) (h_k25 : ∀ (x1 : Int32) (x2 : Int32) (x3 : Int32) (x4 : Int32) (x5 : Int32) (x6 : Int32) (σ : ST), KZA s σ → PF st1 (KZA s) (k25 x1 x2 x3 x4 x5 x6 σ))  (h : KZA s σ) : PF st1 (KZA s) (f_X8_parseFields_204 r_X8_parseFields r_X8_parseItems r_X8_parseValue k25 x1 x2 x3 x4 x5 x6 σ) := by
  unfold f_X8_parseFields_204
  exact (h_k25 _ _ _ _ _ _ _ h)
theorem wkz_X8_parseFields_190 {s : ST} {r_X8_parseFields : Int32 → Int32 → Int32 → ST → Option (Int32 × ST)} {r_X8_parseItems : Int32 → Int32 → Int32 → ST → Option (Int32 × ST)} {r_X8_parseValue : Int32 → Int32 → Int32 → Int32 → ST → Option (Int32 × ST)} {k25 : Int32 → Int32 → Int32 → Int32 → Int32 → Int32 → ST → Option (Int32 × ST)} {x1 : Int32} {x2 : Int32} {x3 : Int32} {x4 : Int32} {x6 : Int32} {y0 : Int32} {σ : ST} (h_r_X8_parseFields : ∀ (x1 : Int32) (x2 : Int32) (x3 : Int32) (σ : ST), KZA s σ → PF st1 (KZA s) (r_X8_parseFields x1 x2 x3 σ)) (h_r_X8_parseItems : ∀ (x1 : Int32) (x2 : Int32) (x3 : Int32) (σ : ST), KZA s σ → PF st1 (KZA s) (r_X8_parseItems x1 x2 x3 σ)) (h_r_X8_parseValue : ∀ (x1 : Int32) (x2 : Int32) (x3 : Int32) (x4 : Int32) (σ : ST), KZA s σ → PF st1 (KZA s) (r_X8_parseValue x1 x2 x3 x4 σ)) (h_k25 : ∀ (x1 : Int32) (x2 : Int32) (x3 : Int32) (x4 : Int32) (x5 : Int32) (x6 : Int32) (σ : ST), KZA s σ → PF st1 (KZA s) (k25 x1 x2 x3 x4 x5 x6 σ))  (h : KZA s σ) : PF st1 (KZA s) (f_X8_parseFields_190 r_X8_parseFields r_X8_parseItems r_X8_parseValue k25 x1 x2 x3 x4 x6 y0 σ) := by
  unfold f_X8_parseFields_190
  exact (PF.ite (fun _ => (wkz_X8_parseFields_204 h_r_X8_parseFields h_r_X8_parseItems h_r_X8_parseValue h_k25 h)) (fun _ => (PF.bnd (wkz_X6_advance  h) (fun q1 hq1 => (wkz_X8_parseFields_204 h_r_X8_parseFields h_r_X8_parseItems h_r_X8_parseValue h_k25 hq1)))))
theorem wkz_X8_parseFields_173 {s : ST} {r_X8_parseFields : Int32 → Int32 → Int32 → ST → Option (Int32 × ST)} {r_X8_parseItems : Int32 → Int32 → Int32 → ST → Option (Int32 × ST)} {r_X8_parseValue : Int32 → Int32 → Int32 → Int32 → ST → Option (Int32 × ST)} {k25 : Int32 → Int32 → Int32 → Int32 → Int32 → Int32 → ST → Option (Int32 × ST)} {x1 : Int32} {x2 : Int32} {x3 : Int32} {x4 : Int32} {x6 : Int32} {σ : ST} (h_r_X8_parseFields : ∀ (x1 : Int32) (x2 : Int32) (x3 : Int32) (σ : ST), KZA s σ → PF st1 (KZA s) (r_X8_parseFields x1 x2 x3 σ)) (h_r_X8_parseItems : ∀ (x1 : Int32) (x2 : Int32) (x3 : Int32) (σ : ST), KZA s σ → PF st1 (KZA s) (r_X8_parseItems x1 x2 x3 σ)) (h_r_X8_parseValue : ∀ (x1 : Int32) (x2 : Int32) (x3 : Int32) (x4 : Int32) (σ : ST), KZA s σ → PF st1 (KZA s) (r_X8_parseValue x1 x2 x3 x4 σ)) (h_k25 : ∀ (x1 : Int32) (x2 : Int32) (x3 : Int32) (x4 : Int32) (x5 : Int32) (x6 : Int32) (σ : ST), KZA s σ → PF st1 (KZA s) (k25 x1 x2 x3 x4 x5 x6 σ))  (h : KZA s σ) : PF st1 (KZA s) (f_X8_parseFields_173 r_X8_parseFields r_X8_parseItems r_X8_parseValue k25 x1 x2 x3 x4 x6 σ) := by
  unfold f_X8_parseFields_173
  exact (PF.ite (fun _ => (wkz_X8_parseFields_190 h_r_X8_parseFields h_r_X8_parseItems h_r_X8_parseValue h_k25 h)) (fun _ => (wkz_X8_parseFields_190 h_r_X8_parseFields h_r_X8_parseItems h_r_X8_parseValue h_k25 h)))
theorem wkz_X8_parseFields_25 {s : ST} {r_X8_parseFields : Int32 → Int32 → Int32 → ST → Option (Int32 × ST)} {r_X8_parseItems : Int32 → Int32 → Int32 → ST → Option (Int32 × ST)} {r_X8_parseValue : Int32 → Int32 → Int32 → Int32 → ST → Option (Int32 × ST)} (h_r_X8_parseFields : ∀ (x1 : Int32) (x2 : Int32) (x3 : Int32) (σ : ST), KZA s σ → PF st1 (KZA s) (r_X8_parseFields x1 x2 x3 σ)) (h_r_X8_parseItems : ∀ (x1 : Int32) (x2 : Int32) (x3 : Int32) (σ : ST), KZA s σ → PF st1 (KZA s) (r_X8_parseItems x1 x2 x3 σ)) (h_r_X8_parseValue : ∀ (x1 : Int32) (x2 : Int32) (x3 : Int32) (x4 : Int32) (σ : ST), KZA s σ → PF st1 (KZA s) (r_X8_parseValue x1 x2 x3 x4 σ))  : ∀ (n : Nat) (x1 : Int32) (x2 : Int32) (x3 : Int32) (x4 : Int32) (x5 : Int32) (x6 : Int32) (σ : ST), KZA s σ → PF st1 (KZA s) (f_X8_parseFields_25 r_X8_parseFields r_X8_parseItems r_X8_parseValue n x1 x2 x3 x4 x5 x6 σ) := by
  intro n
  induction n with
  | zero => intro x1 x2 x3 x4 x5 x6 σ h; rw [f_X8_parseFields_25]; exact PF.none
  | succ n ih =>
    intro x1 x2 x3 x4 x5 x6 σ h
    rw [f_X8_parseFields_25]
    exact (PF.ite (fun _ => (wkz_X8_parseFields_210 h_r_X8_parseFields h_r_X8_parseItems h_r_X8_parseValue h)) (fun _ => (PF.ite (fun _ => (wkz_X8_parseFields_210 h_r_X8_parseFields h_r_X8_parseItems h_r_X8_parseValue h)) (fun _ => (PF.ite (fun _ => (PF.bnd (wkz_X5_fieldNamed  h) (fun q1 hq1 => (PF.ite (fun _ => (wkz_X8_parseFields_90 h_r_X8_parseFields h_r_X8_parseItems h_r_X8_parseValue hq1)) (fun _ => (PF.ite (fun _ => (PF.bnd (wkz_X6_advance  hq1) (fun q3 hq3 => (PF.bnd (wkz_X5_typeOf  hq3) (fun q5 hq5 => (PF.bnd (h_r_X8_parseValue _ _ _ _ _ hq5) (fun q7 hq7 => (PF.ite (fun _ => (PF.ret1 hq7)) (fun _ => (PF.ite (fun _ => (wkz_X8_parseFields_173 h_r_X8_parseFields h_r_X8_parseItems h_r_X8_parseValue ih hq7)) (fun _ => (PF.ite (fun _ => (wkz_X8_parseFields_173 h_r_X8_parseFields h_r_X8_parseItems h_r_X8_parseValue ih hq7)) (fun _ => (PF.bnd (wkz_X6_refuse  hq7) (fun q9 hq9 => (PF.ite (fun _ => (PF.ret1 hq9)) (fun _ => PF.none))))))))))))))))) (fun _ => (wkz_X8_parseFields_90 h_r_X8_parseFields h_r_X8_parseItems h_r_X8_parseValue hq1)))))))) (fun _ => (PF.bnd (wkz_X6_refuse  h) (fun q11 hq11 => (PF.ite (fun _ => (PF.ret1 hq11)) (fun _ => PF.none))))))))))
theorem wkz_X8_parseFields_20 {s : ST} {r_X8_parseFields : Int32 → Int32 → Int32 → ST → Option (Int32 × ST)} {r_X8_parseItems : Int32 → Int32 → Int32 → ST → Option (Int32 × ST)} {r_X8_parseValue : Int32 → Int32 → Int32 → Int32 → ST → Option (Int32 × ST)} {x1 : Int32} {x2 : Int32} {x3 : Int32} {x4 : Int32} {y0 : Int32} {σ : ST} (h_r_X8_parseFields : ∀ (x1 : Int32) (x2 : Int32) (x3 : Int32) (σ : ST), KZA s σ → PF st1 (KZA s) (r_X8_parseFields x1 x2 x3 σ)) (h_r_X8_parseItems : ∀ (x1 : Int32) (x2 : Int32) (x3 : Int32) (σ : ST), KZA s σ → PF st1 (KZA s) (r_X8_parseItems x1 x2 x3 σ)) (h_r_X8_parseValue : ∀ (x1 : Int32) (x2 : Int32) (x3 : Int32) (x4 : Int32) (σ : ST), KZA s σ → PF st1 (KZA s) (r_X8_parseValue x1 x2 x3 x4 σ))  (h : KZA s σ) : PF st1 (KZA s) (f_X8_parseFields_20 r_X8_parseFields r_X8_parseItems r_X8_parseValue x1 x2 x3 x4 y0 σ) := by
  unfold f_X8_parseFields_20
  exact (wkz_X8_parseFields_25 h_r_X8_parseFields h_r_X8_parseItems h_r_X8_parseValue _ _ _ _ _ _ _ _ h)
theorem wkz_X8_parseFields {s : ST} {r_X8_parseFields : Int32 → Int32 → Int32 → ST → Option (Int32 × ST)} {r_X8_parseItems : Int32 → Int32 → Int32 → ST → Option (Int32 × ST)} {r_X8_parseValue : Int32 → Int32 → Int32 → Int32 → ST → Option (Int32 × ST)} {p0 : Int32} {p1 : Int32} {p2 : Int32} {σ : ST} (h_r_X8_parseFields : ∀ (x1 : Int32) (x2 : Int32) (x3 : Int32) (σ : ST), KZA s σ → PF st1 (KZA s) (r_X8_parseFields x1 x2 x3 σ)) (h_r_X8_parseItems : ∀ (x1 : Int32) (x2 : Int32) (x3 : Int32) (σ : ST), KZA s σ → PF st1 (KZA s) (r_X8_parseItems x1 x2 x3 σ)) (h_r_X8_parseValue : ∀ (x1 : Int32) (x2 : Int32) (x3 : Int32) (x4 : Int32) (σ : ST), KZA s σ → PF st1 (KZA s) (r_X8_parseValue x1 x2 x3 x4 σ))  (h : KZA s σ) : PF st1 (KZA s) (f_X8_parseFields r_X8_parseFields r_X8_parseItems r_X8_parseValue p0 p1 p2 σ) := by
  unfold f_X8_parseFields
  exact (PF.ite (fun _ => (wkz_X8_parseFields_20 h_r_X8_parseFields h_r_X8_parseItems h_r_X8_parseValue h)) (fun _ => (wkz_X8_parseFields_20 h_r_X8_parseFields h_r_X8_parseItems h_r_X8_parseValue h)))
theorem wkz_X7_isRow {s : ST} {b : Nat} {p0 : Int32} {σ : ST}   (h : KZA s σ) : PF st1 (KZA s) (f_X7_isRow b p0 σ) := by
  unfold f_X7_isRow
  exact (PF.ite (fun _ => (PF.ret1 h)) (fun _ => (PF.ite (fun _ => (PF.ret1 h)) (fun _ => (PF.ite (fun _ => (PF.ret1 h)) (fun _ => (PF.ret1 h)))))))
theorem wkz_X7_setWorth {s : ST} {b : Nat} {p0 : Int32} {p1 : Int32} {p2 : Int64} {σ : ST}  (h_b : (b = 20 ∨ 62 ≤ b)) (h : KZA s σ) : PF st0 (KZA s) (f_X7_setWorth b p0 p1 p2 σ) := by
  unfold f_X7_setWorth
  exact (PF.bnd (wkz_X7_isRow  h) (fun q1 hq1 => (PF.ite (fun _ => (PF.ret0 hq1)) (fun _ => (PF.ite (fun _ => (PF.ret0 (KZA.l (by omega) (KZA.i (by omega) hq1)))) (fun _ => PF.none))))))
theorem wkz_X8_parseItems_24 {s : ST} {r_X8_parseFields : Int32 → Int32 → Int32 → ST → Option (Int32 × ST)} {r_X8_parseItems : Int32 → Int32 → Int32 → ST → Option (Int32 × ST)} {r_X8_parseValue : Int32 → Int32 → Int32 → Int32 → ST → Option (Int32 × ST)} (h_r_X8_parseFields : ∀ (x1 : Int32) (x2 : Int32) (x3 : Int32) (σ : ST), KZA s σ → PF st1 (KZA s) (r_X8_parseFields x1 x2 x3 σ)) (h_r_X8_parseItems : ∀ (x1 : Int32) (x2 : Int32) (x3 : Int32) (σ : ST), KZA s σ → PF st1 (KZA s) (r_X8_parseItems x1 x2 x3 σ)) (h_r_X8_parseValue : ∀ (x1 : Int32) (x2 : Int32) (x3 : Int32) (x4 : Int32) (σ : ST), KZA s σ → PF st1 (KZA s) (r_X8_parseValue x1 x2 x3 x4 σ))  : ∀ (n : Nat) (x1 : Int32) (x2 : Int32) (x3 : Int32) (x4 : Int32) (σ : ST), KZA s σ → PF st1 (KZA s) (f_X8_parseItems_24 r_X8_parseFields r_X8_parseItems r_X8_parseValue n x1 x2 x3 x4 σ) := by
  intro n
  induction n with
  | zero => intro x1 x2 x3 x4 σ h; rw [f_X8_parseItems_24]; exact PF.none
  | succ n ih =>
    intro x1 x2 x3 x4 σ h
    rw [f_X8_parseItems_24]
    exact (PF.ite (fun _ => (PF.ret1 h)) (fun _ => (PF.bnd (h_r_X8_parseValue _ _ _ _ _ h) (fun q1 hq1 => (PF.ite (fun _ => (PF.ret1 hq1)) (fun _ => (PF.ite (fun _ => (PF.bnd (wkz_X7_setWorth (by omega) hq1) (fun q7 hq7 => (PF.bnd (wkz_X6_advance  hq7) (fun q9 hq9 => (PF.ret1 hq9)))))) (fun _ => (PF.ite (fun _ => (PF.bnd (wkz_X6_advance  hq1) (fun q3 hq3 => (ih _ _ _ _ _ hq3)))) (fun _ => (PF.bnd (wkz_X6_refuse  hq1) (fun q5 hq5 => (PF.ite (fun _ => (PF.ret1 hq5)) (fun _ => PF.none))))))))))))))
theorem wkz_X8_parseItems {s : ST} {r_X8_parseFields : Int32 → Int32 → Int32 → ST → Option (Int32 × ST)} {r_X8_parseItems : Int32 → Int32 → Int32 → ST → Option (Int32 × ST)} {r_X8_parseValue : Int32 → Int32 → Int32 → Int32 → ST → Option (Int32 × ST)} {p0 : Int32} {p1 : Int32} {p2 : Int32} {σ : ST} (h_r_X8_parseFields : ∀ (x1 : Int32) (x2 : Int32) (x3 : Int32) (σ : ST), KZA s σ → PF st1 (KZA s) (r_X8_parseFields x1 x2 x3 σ)) (h_r_X8_parseItems : ∀ (x1 : Int32) (x2 : Int32) (x3 : Int32) (σ : ST), KZA s σ → PF st1 (KZA s) (r_X8_parseItems x1 x2 x3 σ)) (h_r_X8_parseValue : ∀ (x1 : Int32) (x2 : Int32) (x3 : Int32) (x4 : Int32) (σ : ST), KZA s σ → PF st1 (KZA s) (r_X8_parseValue x1 x2 x3 x4 σ))  (h : KZA s σ) : PF st1 (KZA s) (f_X8_parseItems r_X8_parseFields r_X8_parseItems r_X8_parseValue p0 p1 p2 σ) := by
  unfold f_X8_parseItems
  exact (PF.ite (fun _ => (PF.bnd (wkz_X6_advance  h) (fun q1 hq1 => (PF.ret1 hq1)))) (fun _ => (wkz_X8_parseItems_24 h_r_X8_parseFields h_r_X8_parseItems h_r_X8_parseValue _ _ _ _ _ _ h)))
theorem wkz_X6_beginsLiteral_52 {s : ST}  {σ : ST}   (h : KZA s σ) : PF st1 (KZA s) (f_X6_beginsLiteral_52 σ) := by
  unfold f_X6_beginsLiteral_52
  exact (PF.ret1 h)
theorem wkz_X6_isKeyword {s : ST} {p0 : Int32} {σ : ST}   (h : KZA s σ) : PF st1 (KZA s) (f_X6_isKeyword p0 σ) := by
  unfold f_X6_isKeyword
  exact (PF.ite (fun _ => (PF.ite (fun _ => (PF.ret1 h)) (fun _ => (PF.ret1 h)))) (fun _ => (PF.ret1 h)))
theorem wkz_X6_beginsLiteral {s : ST}  {σ : ST}   (h : KZA s σ) : PF st1 (KZA s) (f_X6_beginsLiteral σ) := by
  unfold f_X6_beginsLiteral
  exact (PF.ite (fun _ => (wkz_X6_beginsLiteral_52  h)) (fun _ => (PF.ite (fun _ => (wkz_X6_beginsLiteral_52  h)) (fun _ => (PF.ite (fun _ => (wkz_X6_beginsLiteral_52  h)) (fun _ => (PF.bnd (wkz_X6_isKeyword  h) (fun q1 hq1 => (PF.ite (fun _ => (PF.bnd (wkz_X6_isKeyword  hq1) (fun q3 hq3 => (PF.ite (fun _ => (PF.bnd (wkz_X6_isKeyword  hq3) (fun q5 hq5 => (PF.ite (fun _ => (PF.ret1 hq5)) (fun _ => (wkz_X6_beginsLiteral_52  hq5)))))) (fun _ => (wkz_X6_beginsLiteral_52  hq3)))))) (fun _ => (wkz_X6_beginsLiteral_52  hq1)))))))))))
theorem wkz_X5_isType {s : ST} {b : Nat} {p0 : Int32} {σ : ST}   (h : KZA s σ) : PF st1 (KZA s) (f_X5_isType b p0 σ) := by
  unfold f_X5_isType
  exact (PF.ite (fun _ => (PF.ret1 h)) (fun _ => (PF.ite (fun _ => (PF.ret1 h)) (fun _ => (PF.ite (fun _ => (PF.ret1 h)) (fun _ => (PF.ret1 h)))))))
theorem wkz_X5_sortOf {s : ST} {b : Nat} {p0 : Int32} {σ : ST}   (h : KZA s σ) : PF st1 (KZA s) (f_X5_sortOf b p0 σ) := by
  unfold f_X5_sortOf
  exact (PF.bnd (wkz_X5_isType  h) (fun q1 hq1 => (PF.ite (fun _ => (PF.ret1 hq1)) (fun _ => (PF.ite (fun _ => (PF.ret1 hq1)) (fun _ => PF.none))))))
theorem wkz_X5_innerOf {s : ST} {b : Nat} {p0 : Int32} {σ : ST}   (h : KZA s σ) : PF st1 (KZA s) (f_X5_innerOf b p0 σ) := by
  unfold f_X5_innerOf
  exact (PF.bnd (wkz_X5_isType  h) (fun q1 hq1 => (PF.ite (fun _ => (PF.ret1 hq1)) (fun _ => (PF.ite (fun _ => (PF.ret1 hq1)) (fun _ => PF.none))))))
theorem wkz_X6_fits_73 {s : ST}  {σ : ST}   (h : KZA s σ) : PF st1 (KZA s) (f_X6_fits_73 σ) := by
  unfold f_X6_fits_73
  exact (PF.ret1 h)
theorem wkz_X6_whole {s : ST}  {σ : ST}   (h : KZA s σ) : PF st1 (KZA s) (f_X6_whole σ) := by
  unfold f_X6_whole
  exact (PF.ite (fun _ => (PF.ret1 h)) (fun _ => (PF.ret1 h)))
theorem wkz_X10_isInt {s : ST} {p0 : Int64} {σ : ST}   (h : KZA s σ) : PF st1 (KZA s) (f_X10_isInt p0 σ) := by
  unfold f_X10_isInt
  exact (PF.ite (fun _ => (PF.ret1 h)) (fun _ => (PF.ite (fun _ => (PF.ret1 h)) (fun _ => (PF.ret1 h)))))
theorem wkz_X6_fits {s : ST} {p0 : Int32} {σ : ST}   (h : KZA s σ) : PF st1 (KZA s) (f_X6_fits p0 σ) := by
  unfold f_X6_fits
  exact (PF.ite (fun _ => (PF.bnd (wkz_X6_isKeyword  h) (fun q9 hq9 => (PF.ite (fun _ => (PF.ret1 hq9)) (fun _ => PF.none))))) (fun _ => (PF.ite (fun _ => (PF.bnd (wkz_X6_isKeyword  h) (fun q11 hq11 => (PF.ite (fun _ => (PF.bnd (wkz_X6_isKeyword  hq11) (fun q13 hq13 => (PF.ite (fun _ => (PF.ret1 hq13)) (fun _ => (wkz_X6_fits_73  hq13)))))) (fun _ => (wkz_X6_fits_73  hq11)))))) (fun _ => (PF.ite (fun _ => (PF.ite (fun _ => (PF.ite (fun _ => (PF.bnd (wkz_X6_whole  h) (fun q15 hq15 => (PF.bnd (wkz_X10_isInt  hq15) (fun q17 hq17 => (PF.ite (fun _ => (PF.ret1 hq17)) (fun _ => (PF.ret1 hq17)))))))) (fun _ => (PF.ret1 h)))) (fun _ => (PF.ret1 h)))) (fun _ => (PF.ite (fun _ => (PF.ite (fun _ => (PF.ite (fun _ => (PF.ret1 h)) (fun _ => (PF.ret1 h)))) (fun _ => (PF.ret1 h)))) (fun _ => (PF.ite (fun _ => (PF.ite (fun _ => (PF.ret1 h)) (fun _ => (PF.ret1 h)))) (fun _ => (PF.ite (fun _ => (PF.ite (fun _ => (PF.ret1 h)) (fun _ => (PF.ret1 h)))) (fun _ => (PF.ite (fun _ => (PF.ite (fun _ => (PF.ret1 h)) (fun _ => (PF.ret1 h)))) (fun _ => (PF.ite (fun _ => (PF.ite (fun _ => (PF.ret1 h)) (fun _ => (PF.ret1 h)))) (fun _ => (PF.ret1 h)))))))))))))))))
theorem wkz_X5_branchAfter {s : ST} {b : Nat} {p0 : Int32} {σ : ST}   (h : KZA s σ) : PF st1 (KZA s) (f_X5_branchAfter b p0 σ) := by
  unfold f_X5_branchAfter
  exact (PF.bnd (wkz_X5_isType  h) (fun q1 hq1 => (PF.ite (fun _ => (PF.ret1 hq1)) (fun _ => (PF.ite (fun _ => (PF.ret1 hq1)) (fun _ => PF.none))))))
theorem wkz_X8_fittingType_48 {s : ST}    : ∀ (n : Nat) (x1 : Int32) (x2 : Int32) (σ : ST), KZA s σ → PF st1 (KZA s) (f_X8_fittingType_48  n x1 x2 σ) := by
  intro n
  induction n with
  | zero => intro x1 x2 σ h; rw [f_X8_fittingType_48]; exact PF.none
  | succ n ih =>
    intro x1 x2 σ h
    rw [f_X8_fittingType_48]
    exact (PF.ite (fun _ => (PF.ret1 h)) (fun _ => (PF.ite (fun _ => (PF.ret1 h)) (fun _ => (PF.bnd (wkz_X5_sortOf  h) (fun q1 hq1 => (PF.bnd (wkz_X6_fits  hq1) (fun q3 hq3 => (PF.ite (fun _ => (PF.bnd (wkz_X5_branchAfter  hq3) (fun q5 hq5 => (ih _ _ _ hq5)))) (fun _ => (PF.ret1 hq3)))))))))))
theorem wkz_X8_fittingType {s : ST} {p0 : Int32} {σ : ST}   (h : KZA s σ) : PF st1 (KZA s) (f_X8_fittingType p0 σ) := by
  unfold f_X8_fittingType
  exact (PF.bnd (wkz_X5_sortOf  h) (fun q1 hq1 => (PF.ite (fun _ => (PF.bnd (wkz_X5_innerOf  hq1) (fun q3 hq3 => (wkz_X8_fittingType_48  _ _ _ _ hq3)))) (fun _ => (PF.bnd (wkz_X5_sortOf  hq1) (fun q5 hq5 => (PF.bnd (wkz_X6_fits  hq5) (fun q7 hq7 => (PF.ite (fun _ => (PF.ret1 hq7)) (fun _ => (PF.ret1 hq7)))))))))))
theorem wkz_X10_bitsOfPositive_81 {s : ST} {x2 : UInt64} {x4 : Int32} {σ : ST}   (h : KZA s σ) : PF st1 (KZA s) (f_X10_bitsOfPositive_81 x2 x4 σ) := by
  unfold f_X10_bitsOfPositive_81
  exact (PF.ret1 h)
theorem wkz_X10_bitsOfPositive_51 {s : ST}    : ∀ (n : Nat) (x1 : UInt64) (x2 : Int32) (x3 : Int32) (σ : ST), KZA s σ → PF st1 (KZA s) (f_X10_bitsOfPositive_51  n x1 x2 x3 σ) := by
  intro n
  induction n with
  | zero => intro x1 x2 x3 σ h; rw [f_X10_bitsOfPositive_51]; exact PF.none
  | succ n ih =>
    intro x1 x2 x3 σ h
    rw [f_X10_bitsOfPositive_51]
    exact (PF.ite (fun _ => (wkz_X10_bitsOfPositive_81  h)) (fun _ => (PF.ite (fun _ => (wkz_X10_bitsOfPositive_81  h)) (fun _ => (PF.ite (fun _ => (ih _ _ _ _ h)) (fun _ => PF.none))))))
theorem wkz_X10_bitsOfPositive_48 {s : ST} {x2 : UInt64} {x4 : Int32} {σ : ST}   (h : KZA s σ) : PF st1 (KZA s) (f_X10_bitsOfPositive_48 x2 x4 σ) := by
  unfold f_X10_bitsOfPositive_48
  exact (wkz_X10_bitsOfPositive_51  _ _ _ _ _ h)
theorem wkz_X10_bitsOfPositive_18 {s : ST}    : ∀ (n : Nat) (x1 : UInt64) (x2 : Int32) (x3 : Int32) (σ : ST), KZA s σ → PF st1 (KZA s) (f_X10_bitsOfPositive_18  n x1 x2 x3 σ) := by
  intro n
  induction n with
  | zero => intro x1 x2 x3 σ h; rw [f_X10_bitsOfPositive_18]; exact PF.none
  | succ n ih =>
    intro x1 x2 x3 σ h
    rw [f_X10_bitsOfPositive_18]
    exact (PF.ite (fun _ => (wkz_X10_bitsOfPositive_48  h)) (fun _ => (PF.ite (fun _ => (wkz_X10_bitsOfPositive_48  h)) (fun _ => (PF.ite (fun _ => (ih _ _ _ _ h)) (fun _ => PF.none))))))
theorem wkz_X10_bitsOfPositive {s : ST} {p0 : UInt64} {σ : ST}   (h : KZA s σ) : PF st1 (KZA s) (f_X10_bitsOfPositive p0 σ) := by
  unfold f_X10_bitsOfPositive
  exact (PF.ite (fun _ => (wkz_X10_bitsOfPositive_18  _ _ _ _ _ h)) (fun _ => (PF.ret1 h)))
theorem wkz_X6_realBits_42 {s : ST} {x1 : Int64} {σ : ST}   (h : KZA s σ) : PF st1 (KZA s) (f_X6_realBits_42 x1 σ) := by
  unfold f_X6_realBits_42
  exact (PF.ret1 h)
theorem wkz_X6_realBits {s : ST}  {σ : ST}   (h : KZA s σ) : PF st1 (KZA s) (f_X6_realBits σ) := by
  unfold f_X6_realBits
  exact (PF.ite (fun _ => (PF.ite (fun _ => (PF.bnd (wkz_X10_bitsOfPositive  h) (fun q3 hq3 => (PF.ite (fun _ => (PF.ret1 hq3)) (fun _ => (PF.ite (fun _ => (PF.ite (fun _ => (PF.ret1 hq3)) (fun _ => (wkz_X6_realBits_42  hq3)))) (fun _ => (wkz_X6_realBits_42  hq3)))))))) (fun _ => PF.none))) (fun _ => PF.none))
theorem wkz_X6_worth {s : ST} {p0 : Int32} {σ : ST}   (h : KZA s σ) : PF st1 (KZA s) (f_X6_worth p0 σ) := by
  unfold f_X6_worth
  exact (PF.ite (fun _ => (PF.bnd (wkz_X6_isKeyword  h) (fun q6 hq6 => (PF.ite (fun _ => (PF.ret1 hq6)) (fun _ => (PF.ret1 hq6)))))) (fun _ => (PF.ite (fun _ => (PF.bnd (wkz_X6_whole  h) (fun q8 hq8 => (PF.ret1 hq8)))) (fun _ => (PF.ite (fun _ => (PF.bnd (wkz_X6_whole  h) (fun q10 hq10 => (PF.ret1 hq10)))) (fun _ => (PF.ite (fun _ => (PF.bnd (wkz_X6_realBits  h) (fun q12 hq12 => (PF.ret1 hq12)))) (fun _ => (PF.ite (fun _ => (PF.ret1 h)) (fun _ => (PF.ret1 h)))))))))))
theorem wkz_X10_letterOf_10 {s : ST}  {σ : ST}   (h : KZA s σ) : PF st1 (KZA s) (f_X10_letterOf_10 σ) := by
  unfold f_X10_letterOf_10
  exact (PF.ret1 h)
theorem wkz_X10_letterOf {s : ST} {p0 : Int64} {p1 : Int32} {σ : ST}   (h : KZA s σ) : PF st1 (KZA s) (f_X10_letterOf p0 p1 σ) := by
  unfold f_X10_letterOf
  exact (PF.ite (fun _ => (wkz_X10_letterOf_10  h)) (fun _ => (PF.ite (fun _ => (PF.ret1 h)) (fun _ => (wkz_X10_letterOf_10  h)))))
theorem wkz_X10_lettersIn_2 {s : ST}    : ∀ (n : Nat) (x1 : Int64) (x2 : Int32) (σ : ST), KZA s σ → PF st1 (KZA s) (f_X10_lettersIn_2  n x1 x2 σ) := by
  intro n
  induction n with
  | zero => intro x1 x2 σ h; rw [f_X10_lettersIn_2]; exact PF.none
  | succ n ih =>
    intro x1 x2 σ h
    rw [f_X10_lettersIn_2]
    exact (PF.ite (fun _ => (PF.ret1 h)) (fun _ => (PF.bnd (wkz_X10_letterOf  h) (fun q1 hq1 => (PF.ite (fun _ => (PF.ret1 hq1)) (fun _ => (ih _ _ _ hq1)))))))
theorem wkz_X10_lettersIn {s : ST} {p0 : Int64} {σ : ST}   (h : KZA s σ) : PF st1 (KZA s) (f_X10_lettersIn p0 σ) := by
  unfold f_X10_lettersIn
  exact (wkz_X10_lettersIn_2  _ _ _ _ h)
theorem wkz_X8_parseValue_142 {s : ST} {r_X8_parseFields : Int32 → Int32 → Int32 → ST → Option (Int32 × ST)} {r_X8_parseItems : Int32 → Int32 → Int32 → ST → Option (Int32 × ST)} {r_X8_parseValue : Int32 → Int32 → Int32 → Int32 → ST → Option (Int32 × ST)} {x4 : Int32} {x5 : Int32} {x6 : Int32} {x7 : Int32} {x8 : Int64} {y0 : Int32} {y1 : Int32} {σ : ST} (h_r_X8_parseFields : ∀ (x1 : Int32) (x2 : Int32) (x3 : Int32) (σ : ST), KZA s σ → PF st1 (KZA s) (r_X8_parseFields x1 x2 x3 σ)) (h_r_X8_parseItems : ∀ (x1 : Int32) (x2 : Int32) (x3 : Int32) (σ : ST), KZA s σ → PF st1 (KZA s) (r_X8_parseItems x1 x2 x3 σ)) (h_r_X8_parseValue : ∀ (x1 : Int32) (x2 : Int32) (x3 : Int32) (x4 : Int32) (σ : ST), KZA s σ → PF st1 (KZA s) (r_X8_parseValue x1 x2 x3 x4 σ))  (h : KZA s σ) : PF st1 (KZA s) (f_X8_parseValue_142 r_X8_parseFields r_X8_parseItems r_X8_parseValue x4 x5 x6 x7 x8 y0 y1 σ) := by
  unfold f_X8_parseValue_142
  exact (PF.bnd (wkz_X7_setWorth (by omega) h) (fun q1 hq1 => (PF.bnd (wkz_X6_advance  hq1) (fun q3 hq3 => (PF.ite (fun _ => (PF.bnd (wkz_X5_innerOf  hq3) (fun q9 hq9 => (PF.bnd (h_r_X8_parseItems _ _ _ _ hq9) (fun q11 hq11 => (PF.ite (fun _ => (PF.ret1 hq11)) (fun _ => PF.none))))))) (fun _ => (PF.ite (fun _ => (PF.bnd (wkz_X5_innerOf  hq3) (fun q5 hq5 => (PF.bnd (h_r_X8_parseFields _ _ _ _ hq5) (fun q7 hq7 => (PF.ite (fun _ => (PF.ret1 hq7)) (fun _ => PF.none))))))) (fun _ => (PF.ret1 hq3)))))))))
theorem wkz_X8_parseValue_93 {s : ST} {r_X8_parseFields : Int32 → Int32 → Int32 → ST → Option (Int32 × ST)} {r_X8_parseItems : Int32 → Int32 → Int32 → ST → Option (Int32 × ST)} {r_X8_parseValue : Int32 → Int32 → Int32 → Int32 → ST → Option (Int32 × ST)} {x4 : Int32} {x5 : Int32} {x6 : Int32} {y0 : Int32} {σ : ST} (h_r_X8_parseFields : ∀ (x1 : Int32) (x2 : Int32) (x3 : Int32) (σ : ST), KZA s σ → PF st1 (KZA s) (r_X8_parseFields x1 x2 x3 σ)) (h_r_X8_parseItems : ∀ (x1 : Int32) (x2 : Int32) (x3 : Int32) (σ : ST), KZA s σ → PF st1 (KZA s) (r_X8_parseItems x1 x2 x3 σ)) (h_r_X8_parseValue : ∀ (x1 : Int32) (x2 : Int32) (x3 : Int32) (x4 : Int32) (σ : ST), KZA s σ → PF st1 (KZA s) (r_X8_parseValue x1 x2 x3 x4 σ))  (h : KZA s σ) : PF st1 (KZA s) (f_X8_parseValue_93 r_X8_parseFields r_X8_parseItems r_X8_parseValue x4 x5 x6 y0 σ) := by
  unfold f_X8_parseValue_93
  exact (PF.ite (fun _ => (PF.bnd (wkz_X6_refuse  h) (fun q5 hq5 => (PF.ite (fun _ => (PF.ret1 hq5)) (fun _ => PF.none))))) (fun _ => (PF.bnd (wkz_X6_worth  h) (fun q1 hq1 => (PF.ite (fun _ => (PF.bnd (wkz_X10_lettersIn  hq1) (fun q3 hq3 => (wkz_X8_parseValue_142 h_r_X8_parseFields h_r_X8_parseItems h_r_X8_parseValue hq3)))) (fun _ => (wkz_X8_parseValue_142 h_r_X8_parseFields h_r_X8_parseItems h_r_X8_parseValue hq1)))))))
theorem wkz_X8_parseValue_78 {s : ST} {r_X8_parseFields : Int32 → Int32 → Int32 → ST → Option (Int32 × ST)} {r_X8_parseItems : Int32 → Int32 → Int32 → ST → Option (Int32 × ST)} {r_X8_parseValue : Int32 → Int32 → Int32 → Int32 → ST → Option (Int32 × ST)} {x4 : Int32} {x5 : Int32} {x6 : Int32} {σ : ST} (h_r_X8_parseFields : ∀ (x1 : Int32) (x2 : Int32) (x3 : Int32) (σ : ST), KZA s σ → PF st1 (KZA s) (r_X8_parseFields x1 x2 x3 σ)) (h_r_X8_parseItems : ∀ (x1 : Int32) (x2 : Int32) (x3 : Int32) (σ : ST), KZA s σ → PF st1 (KZA s) (r_X8_parseItems x1 x2 x3 σ)) (h_r_X8_parseValue : ∀ (x1 : Int32) (x2 : Int32) (x3 : Int32) (x4 : Int32) (σ : ST), KZA s σ → PF st1 (KZA s) (r_X8_parseValue x1 x2 x3 x4 σ))  (h : KZA s σ) : PF st1 (KZA s) (f_X8_parseValue_78 r_X8_parseFields r_X8_parseItems r_X8_parseValue x4 x5 x6 σ) := by
  unfold f_X8_parseValue_78
  exact (wkz_X8_parseValue_93 h_r_X8_parseFields h_r_X8_parseItems h_r_X8_parseValue h)
theorem wkz_X7_link_155 {s : ST} {b : Nat} {x1 : Int32} {x2 : Int32} {σ : ST}  (h_b : (b = 20 ∨ 62 ≤ b)) (h : KZA s σ) : PF st0 (KZA s) (f_X7_link_155 b x1 x2 σ) := by
  unfold f_X7_link_155
  exact (PF.ite (fun _ => (PF.ite (fun _ => (PF.ite (fun _ => (PF.ret0 (KZA.i (by omega) h))) (fun _ => PF.none))) (fun _ => (PF.ret0 h)))) (fun _ => PF.none))
theorem wkz_X7_link_103 {s : ST} {b : Nat} {x1 : Int32} {x2 : Int32} {x4 : Int32} {σ : ST}  (h_b : (b = 20 ∨ 62 ≤ b)) (h : KZA s σ) : PF st0 (KZA s) (f_X7_link_103 b x1 x2 x4 σ) := by
  unfold f_X7_link_103
  exact (PF.bnd (wkz_X7_isRow  h) (fun q1 hq1 => (PF.ite (fun _ => (PF.ite (fun _ => (PF.ite (fun _ => (PF.bnd (PF.ret0 (KZA.i (by omega) (KZA.i (by omega) hq1))) (fun z5 hz5 => (wkz_X7_link_155 (by omega) hz5)))) (fun _ => PF.none))) (fun _ => PF.none))) (fun _ => (PF.ite (fun _ => (PF.ite (fun _ => (PF.bnd (PF.ret0 (KZA.i (by omega) (KZA.i (by omega) hq1))) (fun z8 hz8 => (wkz_X7_link_155 (by omega) hz8)))) (fun _ => PF.none))) (fun _ => PF.none))))))
theorem wkz_X7_link_50 {s : ST} {b : Nat}  (h_b : (b = 20 ∨ 62 ≤ b)) : ∀ (n : Nat) (x1 : Int32) (x2 : Int32) (x3 : Int32) (x4 : Int32) (x5 : Int32) (σ : ST), KZA s σ → PF st0 (KZA s) (f_X7_link_50 b n x1 x2 x3 x4 x5 σ) := by
  intro n
  induction n with
  | zero => intro x1 x2 x3 x4 x5 σ h; rw [f_X7_link_50]; exact PF.none
  | succ n ih =>
    intro x1 x2 x3 x4 x5 σ h
    rw [f_X7_link_50]
    exact (PF.ite (fun _ => (wkz_X7_link_103 (by omega) h)) (fun _ => (PF.bnd (wkz_X7_isRow  h) (fun q1 hq1 => (PF.ite (fun _ => (wkz_X7_link_103 (by omega) hq1)) (fun _ => (PF.ite (fun _ => (PF.ite (fun _ => (PF.ite (fun _ => (wkz_X7_link_103 (by omega) hq1)) (fun _ => (ih _ _ _ _ _ _ hq1)))) (fun _ => PF.none))) (fun _ => PF.none))))))))
theorem wkz_X7_link_39 {s : ST} {b : Nat} {x1 : Int32} {x2 : Int32} {x4 : Int32} {σ : ST}  (h_b : (b = 20 ∨ 62 ≤ b)) (h : KZA s σ) : PF st0 (KZA s) (f_X7_link_39 b x1 x2 x4 σ) := by
  unfold f_X7_link_39
  exact (PF.ite (fun _ => (wkz_X7_link_50 (by omega) _ _ _ _ _ _ _ h)) (fun _ => PF.none))
theorem wkz_X7_link {s : ST} {b : Nat} {p0 : Int32} {p1 : Int32} {σ : ST}  (h_b : (b = 20 ∨ 62 ≤ b)) (h : KZA s σ) : PF st0 (KZA s) (f_X7_link b p0 p1 σ) := by
  unfold f_X7_link
  exact (PF.ite (fun _ => (PF.bnd (wkz_X7_isRow  h) (fun q2 hq2 => (PF.ite (fun _ => (wkz_X7_link_39 (by omega) hq2)) (fun _ => (PF.ite (fun _ => (PF.ite (fun _ => (PF.ite (fun _ => (wkz_X7_link_39 (by omega) hq2)) (fun _ => (wkz_X7_link_103 (by omega) hq2)))) (fun _ => PF.none))) (fun _ => PF.none))))))) (fun _ => PF.none))
theorem wkz_X7_grow {s : ST} {b : Nat} {p0 : Int32} {p1 : Int32} {p2 : Int32} {σ : ST}  (h_b : (b = 20 ∨ 62 ≤ b)) (h : KZA s σ) : PF st1 (KZA s) (f_X7_grow b p0 p1 p2 σ) := by
  unfold f_X7_grow
  exact (PF.ite (fun _ => (PF.ite (fun _ => (PF.bnd (PF.ret0 (KZA.i (by omega) (KZA.i (by omega) (KZA.i (by omega) h)))) (fun z2 hz2 => (PF.bnd (PF.ret0 (KZA.i (by omega) (KZA.i (by omega) (KZA.i (by omega) hz2)))) (fun z3 hz3 => (PF.bnd (PF.ret0 (KZA.i (by omega) (KZA.l (by omega) hz3))) (fun z4 hz4 => (PF.bnd (PF.ret0 (KZA.i (by omega) (KZA.i (by omega) hz4))) (fun z5 hz5 => (PF.bnd (wkz_X7_isRow  hz5) (fun q6 hq6 => (PF.ite (fun _ => (PF.ret1 hq6)) (fun _ => (PF.bnd (wkz_X7_link (by omega) hq6) (fun q8 hq8 => (PF.ret1 hq8)))))))))))))))) (fun _ => PF.none))) (fun _ => (PF.ret1 h)))
theorem wkz_X8_parseValue_31 {s : ST} {r_X8_parseFields : Int32 → Int32 → Int32 → ST → Option (Int32 × ST)} {r_X8_parseItems : Int32 → Int32 → Int32 → ST → Option (Int32 × ST)} {r_X8_parseValue : Int32 → Int32 → Int32 → Int32 → ST → Option (Int32 × ST)} {x1 : Int32} {x2 : Int32} {x3 : Int32} {x4 : Int32} {σ : ST} (h_r_X8_parseFields : ∀ (x1 : Int32) (x2 : Int32) (x3 : Int32) (σ : ST), KZA s σ → PF st1 (KZA s) (r_X8_parseFields x1 x2 x3 σ)) (h_r_X8_parseItems : ∀ (x1 : Int32) (x2 : Int32) (x3 : Int32) (σ : ST), KZA s σ → PF st1 (KZA s) (r_X8_parseItems x1 x2 x3 σ)) (h_r_X8_parseValue : ∀ (x1 : Int32) (x2 : Int32) (x3 : Int32) (x4 : Int32) (σ : ST), KZA s σ → PF st1 (KZA s) (r_X8_parseValue x1 x2 x3 x4 σ))  (h : KZA s σ) : PF st1 (KZA s) (f_X8_parseValue_31 r_X8_parseFields r_X8_parseItems r_X8_parseValue x1 x2 x3 x4 σ) := by
  unfold f_X8_parseValue_31
  exact (PF.bnd (wkz_X8_fittingType  h) (fun q1 hq1 => (PF.ite (fun _ => (PF.bnd (wkz_X6_refuse  hq1) (fun q7 hq7 => (PF.ite (fun _ => (PF.ret1 hq7)) (fun _ => PF.none))))) (fun _ => (PF.bnd (wkz_X5_sortOf  hq1) (fun q3 hq3 => (PF.ite (fun _ => (wkz_X8_parseValue_78 h_r_X8_parseFields h_r_X8_parseItems h_r_X8_parseValue hq3)) (fun _ => (PF.ite (fun _ => (PF.bnd (wkz_X7_grow (by omega) hq3) (fun q5 hq5 => (wkz_X8_parseValue_93 h_r_X8_parseFields h_r_X8_parseItems h_r_X8_parseValue hq5)))) (fun _ => (wkz_X8_parseValue_78 h_r_X8_parseFields h_r_X8_parseItems h_r_X8_parseValue hq3)))))))))))
theorem wkz_X8_parseValue {s : ST} {r_X8_parseFields : Int32 → Int32 → Int32 → ST → Option (Int32 × ST)} {r_X8_parseItems : Int32 → Int32 → Int32 → ST → Option (Int32 × ST)} {r_X8_parseValue : Int32 → Int32 → Int32 → Int32 → ST → Option (Int32 × ST)} {p0 : Int32} {p1 : Int32} {p2 : Int32} {p3 : Int32} {σ : ST} (h_r_X8_parseFields : ∀ (x1 : Int32) (x2 : Int32) (x3 : Int32) (σ : ST), KZA s σ → PF st1 (KZA s) (r_X8_parseFields x1 x2 x3 σ)) (h_r_X8_parseItems : ∀ (x1 : Int32) (x2 : Int32) (x3 : Int32) (σ : ST), KZA s σ → PF st1 (KZA s) (r_X8_parseItems x1 x2 x3 σ)) (h_r_X8_parseValue : ∀ (x1 : Int32) (x2 : Int32) (x3 : Int32) (x4 : Int32) (σ : ST), KZA s σ → PF st1 (KZA s) (r_X8_parseValue x1 x2 x3 x4 σ))  (h : KZA s σ) : PF st1 (KZA s) (f_X8_parseValue r_X8_parseFields r_X8_parseItems r_X8_parseValue p0 p1 p2 p3 σ) := by
  unfold f_X8_parseValue
  exact (PF.bnd (wkz_X6_beginsLiteral  h) (fun q1 hq1 => (PF.ite (fun _ => (PF.ite (fun _ => (wkz_X8_parseValue_31 h_r_X8_parseFields h_r_X8_parseItems h_r_X8_parseValue hq1)) (fun _ => (PF.bnd (wkz_X6_refuse  hq1) (fun q3 hq3 => (PF.ite (fun _ => (PF.ret1 hq3)) (fun _ => PF.none))))))) (fun _ => (wkz_X8_parseValue_31 h_r_X8_parseFields h_r_X8_parseItems h_r_X8_parseValue hq1)))))
theorem wkzR_X8_parseFields {s : ST} : ∀ n : Nat, (∀ (p0 : Int32) (p1 : Int32) (p2 : Int32) (σ : ST), KZA s σ → PF st1 (KZA s) ((R_X8_parseFields n).1 p0 p1 p2 σ)) ∧ (∀ (p0 : Int32) (p1 : Int32) (p2 : Int32) (σ : ST), KZA s σ → PF st1 (KZA s) ((R_X8_parseFields n).2.1 p0 p1 p2 σ)) ∧ (∀ (p0 : Int32) (p1 : Int32) (p2 : Int32) (p3 : Int32) (σ : ST), KZA s σ → PF st1 (KZA s) ((R_X8_parseFields n).2.2 p0 p1 p2 p3 σ)) := by
  intro n
  induction n with
  | zero => exact ⟨fun _ _ _ _ _ => PF.none, fun _ _ _ _ _ => PF.none, fun _ _ _ _ _ _ => PF.none⟩
  | succ n ih => exact ⟨fun _ _ _ _ h => wkz_X8_parseFields (ih.1) (ih.2.1) (ih.2.2)  h, fun _ _ _ _ h => wkz_X8_parseItems (ih.1) (ih.2.1) (ih.2.2)  h, fun _ _ _ _ _ h => wkz_X8_parseValue (ih.1) (ih.2.1) (ih.2.2)  h⟩
theorem wkz_T_X8_parseValue {s : ST} {p0 : Int32} {p1 : Int32} {p2 : Int32} {p3 : Int32} {σ : ST} (h : KZA s σ) : PF st1 (KZA s) (f_T_X8_parseValue p0 p1 p2 p3 σ) := (wkzR_X8_parseFields FR).2.2 _ _ _ _ _  h
theorem wkz_X8_parse_41 {s : ST}  {σ : ST}   (h : KZA s σ) : PF st1 (KZA s) (f_X8_parse_41 σ) := by
  unfold f_X8_parse_41
  exact (PF.ret1 h)
theorem wkz_X8_parse {s : ST} {p0 : Int32} {σ : ST}   (h : KZA s σ) : PF st1 (KZA s) (f_X8_parse p0 σ) := by
  unfold f_X8_parse
  exact (PF.bnd (wkz_X7_clear (by omega) h) (fun q1 hq1 => (PF.bnd (wkz_T_X8_parseValue hq1) (fun q3 hq3 => (PF.ite (fun _ => (PF.ret1 hq3)) (fun _ => (PF.ite (fun _ => (wkz_X8_parse_41  hq3)) (fun _ => (PF.bnd (wkz_X6_refuse  hq3) (fun q5 hq5 => (PF.ite (fun _ => (PF.ret1 hq5)) (fun _ => (wkz_X8_parse_41  hq5)))))))))))))
theorem wkz_X6_faultAnswer {s : ST}  {σ : ST}   (h : KZA s σ) : PF st1 (KZA s) (f_X6_faultAnswer σ) := by
  unfold f_X6_faultAnswer
  exact (PF.ret1 h)
theorem wkz_X7_firstOf {s : ST} {b : Nat} {p0 : Int32} {σ : ST}   (h : KZA s σ) : PF st1 (KZA s) (f_X7_firstOf b p0 σ) := by
  unfold f_X7_firstOf
  exact (PF.bnd (wkz_X7_isRow  h) (fun q1 hq1 => (PF.ite (fun _ => (PF.ret1 hq1)) (fun _ => (PF.ite (fun _ => (PF.ret1 hq1)) (fun _ => PF.none))))))
theorem wkz_X5_firstChoice {s : ST} {b : Nat} {p0 : Int32} {σ : ST}   (h : KZA s σ) : PF st1 (KZA s) (f_X5_firstChoice b p0 σ) := by
  unfold f_X5_firstChoice
  exact (PF.bnd (wkz_X5_sortOf  h) (fun q1 hq1 => (PF.ite (fun _ => (PF.bnd (wkz_X5_innerOf  hq1) (fun q3 hq3 => (PF.ret1 hq3)))) (fun _ => (PF.ret1 hq1)))))
theorem wkz_X5_elseWorth {s : ST} {b : Nat} {p0 : Int32} {p1 : Int32} {σ : ST}   (h : KZA s σ) : PF st1 (KZA s) (f_X5_elseWorth b p0 p1 σ) := by
  unfold f_X5_elseWorth
  exact (PF.bnd (wkz_X5_isFieldOf  h) (fun q1 hq1 => (PF.ite (fun _ => (PF.ret1 hq1)) (fun _ => (PF.ite (fun _ => (PF.ret1 hq1)) (fun _ => PF.none))))))
theorem wkz_X2_put_21 {s : ST}  {σ : ST}   (h : KZA s σ) : PF st0 (KZA s) (f_X2_put_21 σ) := by
  unfold f_X2_put_21
  exact (PF.ret0 (KZA.i (by omega) h))
theorem wkz_X2_put {s : ST} {p0 : Int32} {σ : ST}   (h : KZA s σ) : PF st0 (KZA s) (f_X2_put p0 σ) := by
  unfold f_X2_put
  exact (PF.ite (fun _ => (wkz_X2_put_21  h)) (fun _ => (PF.ite (fun _ => (wkz_X2_put_21  (KZA.i (by omega) h))) (fun _ => PF.none))))
theorem wkz_X2_putNumber_54 {s : ST} {x3 : Int64} {σ : ST}   (h : KZA s σ) : PF st0 (KZA s) (f_X2_putNumber_54 x3 σ) := by
  unfold f_X2_putNumber_54
  exact (PF.bnd (wkz_X2_put  h) (fun q1 hq1 => (PF.ret0 hq1)))
theorem wkz_X2_putNumber_12 {s : ST}    : ∀ (n : Nat) (x1 : Int64) (x2 : Int32) (σ : ST), KZA s σ → PF st0 (KZA s) (f_X2_putNumber_12  n x1 x2 σ) := by
  intro n
  induction n with
  | zero => intro x1 x2 σ h; rw [f_X2_putNumber_12]; exact PF.none
  | succ n ih =>
    intro x1 x2 σ h
    rw [f_X2_putNumber_12]
    exact (PF.ite (fun _ => (wkz_X2_putNumber_54  h)) (fun _ => (PF.ite (fun _ => (wkz_X2_putNumber_54  h)) (fun _ => (PF.bnd (wkz_X2_put  h) (fun q1 hq1 => (PF.val (ih _ _ _ hq1))))))))
theorem wkz_X2_putNumber {s : ST} {p0 : Int64} {σ : ST}   (h : KZA s σ) : PF st0 (KZA s) (f_X2_putNumber p0 σ) := by
  unfold f_X2_putNumber
  exact (PF.val (wkz_X2_putNumber_12  _ _ _ _ h))
theorem wkz_X2_packPlain_61 {s : ST}    : ∀ (n : Nat) (x1 : Int64) (x2 : Int32) (σ : ST), KZA s σ → PF st0 (KZA s) (f_X2_packPlain_61  n x1 x2 σ) := by
  intro n
  induction n with
  | zero => intro x1 x2 σ h; rw [f_X2_packPlain_61]; exact PF.none
  | succ n ih =>
    intro x1 x2 σ h
    rw [f_X2_packPlain_61]
    exact (PF.ite (fun _ => (PF.ret0 h)) (fun _ => (PF.bnd (wkz_X2_put  h) (fun q1 hq1 => (ih _ _ _ hq1)))))
theorem wkz_X2_packLetters_14 {s : ST}    : ∀ (n : Nat) (x1 : Int64) (x2 : Int32) (x3 : Int32) (σ : ST), KZA s σ → PF st0 (KZA s) (f_X2_packLetters_14  n x1 x2 x3 σ) := by
  intro n
  induction n with
  | zero => intro x1 x2 x3 σ h; rw [f_X2_packLetters_14]; exact PF.none
  | succ n ih =>
    intro x1 x2 x3 σ h
    rw [f_X2_packLetters_14]
    exact (PF.ite (fun _ => (PF.ret0 h)) (fun _ => (PF.bnd (wkz_X10_letterOf  h) (fun q1 hq1 => (PF.bnd (wkz_X2_put  hq1) (fun q3 hq3 => (ih _ _ _ _ hq3)))))))
theorem wkz_X2_packLetters {s : ST} {p0 : Int64} {σ : ST}   (h : KZA s σ) : PF st0 (KZA s) (f_X2_packLetters p0 σ) := by
  unfold f_X2_packLetters
  exact (PF.bnd (wkz_X10_lettersIn  h) (fun q1 hq1 => (PF.bnd (wkz_X2_putNumber  hq1) (fun q3 hq3 => (wkz_X2_packLetters_14  _ _ _ _ _ hq3)))))
theorem wkz_X2_packPlain {s : ST} {p0 : Int32} {p1 : Int64} {σ : ST}   (h : KZA s σ) : PF st0 (KZA s) (f_X2_packPlain p0 p1 σ) := by
  unfold f_X2_packPlain
  exact (PF.ite (fun _ => (PF.bnd (wkz_X2_put  h) (fun q7 hq7 => (PF.ret0 hq7)))) (fun _ => (PF.ite (fun _ => (PF.bnd (wkz_X2_putNumber  h) (fun q9 hq9 => (PF.ret0 hq9)))) (fun _ => (PF.ite (fun _ => (PF.bnd (wkz_X2_putNumber  h) (fun q11 hq11 => (PF.ret0 hq11)))) (fun _ => (PF.ite (fun _ => (wkz_X2_packPlain_61  _ _ _ _ h)) (fun _ => (PF.ite (fun _ => (PF.bnd (wkz_X2_packLetters  h) (fun q13 hq13 => (PF.ret0 hq13)))) (fun _ => (PF.ite (fun _ => (PF.bnd (wkz_X2_putNumber  h) (fun q15 hq15 => (PF.ret0 hq15)))) (fun _ => (PF.ret0 h)))))))))))))
theorem wkz_X2_packElse_21 {s : ST} {x1 : Int32} {x2 : Int32} {x4 : Int32} {σ : ST}   (h : KZA s σ) : PF st0 (KZA s) (f_X2_packElse_21 x1 x2 x4 σ) := by
  unfold f_X2_packElse_21
  exact (PF.bnd (wkz_X5_sortOf  h) (fun q1 hq1 => (PF.bnd (wkz_X5_elseWorth  hq1) (fun q3 hq3 => (PF.bnd (wkz_X2_packPlain  hq3) (fun q5 hq5 => (PF.ret0 hq5)))))))
theorem wkz_X2_packElse {s : ST} {p0 : Int32} {p1 : Int32} {p2 : Int32} {σ : ST}   (h : KZA s σ) : PF st0 (KZA s) (f_X2_packElse p0 p1 p2 σ) := by
  unfold f_X2_packElse
  exact (PF.bnd (wkz_X5_firstChoice  h) (fun q1 hq1 => (PF.ite (fun _ => (wkz_X2_packElse_21  hq1)) (fun _ => (PF.bnd (wkz_X2_putNumber  hq1) (fun q3 hq3 => (wkz_X2_packElse_21  hq3)))))))
theorem wkz_X2_packFields_85 {s : ST} {r_X2_packFields : Nat → Int32 → Int32 → Int32 → ST → Option (ST)} {r_X2_packValue : Nat → Int32 → Int32 → Int32 → ST → Option (ST)} {k10 : Int32 → Int32 → Int32 → Int32 → ST → Option (ST)} {t : Nat} {x3 : Int32} {x4 : Int32} {x5 : Int32} {x6 : Int32} {σ : ST} (h_r_X2_packFields : ∀ (x1 : Nat) (x2 : Int32) (x3 : Int32) (x4 : Int32) (σ : ST), KZA s σ → PF st0 (KZA s) (r_X2_packFields x1 x2 x3 x4 σ)) (h_r_X2_packValue : ∀ (x1 : Nat) (x2 : Int32) (x3 : Int32) (x4 : Int32) (σ : ST), KZA s σ → PF st0 (KZA s) (r_X2_packValue x1 x2 x3 x4 σ)) (h_k10 : ∀ (x1 : Int32) (x2 : Int32) (x3 : Int32) (x4 : Int32) (σ : ST), KZA s σ → PF st0 (KZA s) (k10 x1 x2 x3 x4 σ))  (h : KZA s σ) : PF st0 (KZA s) (f_X2_packFields_85 r_X2_packFields r_X2_packValue k10 t x3 x4 x5 x6 σ) := by
  unfold f_X2_packFields_85
  exact (h_k10 _ _ _ _ _ h)
theorem wkz_X2_packFields_76 {s : ST} {r_X2_packFields : Nat → Int32 → Int32 → Int32 → ST → Option (ST)} {r_X2_packValue : Nat → Int32 → Int32 → Int32 → ST → Option (ST)} {k10 : Int32 → Int32 → Int32 → Int32 → ST → Option (ST)} {t : Nat} {x3 : Int32} {x4 : Int32} {x5 : Int32} {x6 : Int32} {x7 : Int32} {σ : ST} (h_r_X2_packFields : ∀ (x1 : Nat) (x2 : Int32) (x3 : Int32) (x4 : Int32) (σ : ST), KZA s σ → PF st0 (KZA s) (r_X2_packFields x1 x2 x3 x4 σ)) (h_r_X2_packValue : ∀ (x1 : Nat) (x2 : Int32) (x3 : Int32) (x4 : Int32) (σ : ST), KZA s σ → PF st0 (KZA s) (r_X2_packValue x1 x2 x3 x4 σ)) (h_k10 : ∀ (x1 : Int32) (x2 : Int32) (x3 : Int32) (x4 : Int32) (σ : ST), KZA s σ → PF st0 (KZA s) (k10 x1 x2 x3 x4 σ))  (h : KZA s σ) : PF st0 (KZA s) (f_X2_packFields_76 r_X2_packFields r_X2_packValue k10 t x3 x4 x5 x6 x7 σ) := by
  unfold f_X2_packFields_76
  exact (PF.bnd (wkz_X2_packElse  h) (fun q1 hq1 => (wkz_X2_packFields_85 h_r_X2_packFields h_r_X2_packValue h_k10 hq1)))
theorem wkz_X7_placeOf {s : ST} {b : Nat} {p0 : Int32} {σ : ST}   (h : KZA s σ) : PF st1 (KZA s) (f_X7_placeOf b p0 σ) := by
  unfold f_X7_placeOf
  exact (PF.bnd (wkz_X7_isRow  h) (fun q1 hq1 => (PF.ite (fun _ => (PF.ret1 hq1)) (fun _ => (PF.ite (fun _ => (PF.ret1 hq1)) (fun _ => PF.none))))))
theorem wkz_X7_nextOf {s : ST} {b : Nat} {p0 : Int32} {σ : ST}   (h : KZA s σ) : PF st1 (KZA s) (f_X7_nextOf b p0 σ) := by
  unfold f_X7_nextOf
  exact (PF.bnd (wkz_X7_isRow  h) (fun q1 hq1 => (PF.ite (fun _ => (PF.ret1 hq1)) (fun _ => (PF.ite (fun _ => (PF.ret1 hq1)) (fun _ => PF.none))))))
theorem wkz_X2_packFields_10 {s : ST} {r_X2_packFields : Nat → Int32 → Int32 → Int32 → ST → Option (ST)} {r_X2_packValue : Nat → Int32 → Int32 → Int32 → ST → Option (ST)} {t : Nat} (h_r_X2_packFields : ∀ (x1 : Nat) (x2 : Int32) (x3 : Int32) (x4 : Int32) (σ : ST), KZA s σ → PF st0 (KZA s) (r_X2_packFields x1 x2 x3 x4 σ)) (h_r_X2_packValue : ∀ (x1 : Nat) (x2 : Int32) (x3 : Int32) (x4 : Int32) (σ : ST), KZA s σ → PF st0 (KZA s) (r_X2_packValue x1 x2 x3 x4 σ))  : ∀ (n : Nat) (x1 : Int32) (x2 : Int32) (x3 : Int32) (x4 : Int32) (σ : ST), KZA s σ → PF st0 (KZA s) (f_X2_packFields_10 r_X2_packFields r_X2_packValue t n x1 x2 x3 x4 σ) := by
  intro n
  induction n with
  | zero => intro x1 x2 x3 x4 σ h; rw [f_X2_packFields_10]; exact PF.none
  | succ n ih =>
    intro x1 x2 x3 x4 σ h
    rw [f_X2_packFields_10]
    exact (PF.bnd (wkz_X5_fieldsOf  h) (fun q1 hq1 => (PF.ite (fun _ => (PF.ret0 hq1)) (fun _ => (PF.bnd (wkz_X5_typeOf  hq1) (fun q3 hq3 => (PF.ite (fun _ => (wkz_X2_packFields_76 h_r_X2_packFields h_r_X2_packValue ih hq3)) (fun _ => (PF.bnd (wkz_X7_placeOf  hq3) (fun q5 hq5 => (PF.ite (fun _ => (PF.bnd (h_r_X2_packValue _ _ _ _ _ hq5) (fun q7 hq7 => (PF.bnd (wkz_X7_nextOf  hq7) (fun q9 hq9 => (wkz_X2_packFields_85 h_r_X2_packFields h_r_X2_packValue ih hq9)))))) (fun _ => (wkz_X2_packFields_76 h_r_X2_packFields h_r_X2_packValue ih hq5)))))))))))))
theorem wkz_X2_packFields {s : ST} {r_X2_packFields : Nat → Int32 → Int32 → Int32 → ST → Option (ST)} {r_X2_packValue : Nat → Int32 → Int32 → Int32 → ST → Option (ST)} {t : Nat} {p1 : Int32} {p2 : Int32} {p3 : Int32} {σ : ST} (h_r_X2_packFields : ∀ (x1 : Nat) (x2 : Int32) (x3 : Int32) (x4 : Int32) (σ : ST), KZA s σ → PF st0 (KZA s) (r_X2_packFields x1 x2 x3 x4 σ)) (h_r_X2_packValue : ∀ (x1 : Nat) (x2 : Int32) (x3 : Int32) (x4 : Int32) (σ : ST), KZA s σ → PF st0 (KZA s) (r_X2_packValue x1 x2 x3 x4 σ))  (h : KZA s σ) : PF st0 (KZA s) (f_X2_packFields r_X2_packFields r_X2_packValue t p1 p2 p3 σ) := by
  unfold f_X2_packFields
  exact (PF.bnd (wkz_X7_firstOf  h) (fun q1 hq1 => (wkz_X2_packFields_10 h_r_X2_packFields h_r_X2_packValue _ _ _ _ _ _ hq1)))
theorem wkz_X7_sortAt {s : ST} {b : Nat} {p0 : Int32} {σ : ST}   (h : KZA s σ) : PF st1 (KZA s) (f_X7_sortAt b p0 σ) := by
  unfold f_X7_sortAt
  exact (PF.bnd (wkz_X7_isRow  h) (fun q1 hq1 => (PF.ite (fun _ => (PF.ret1 hq1)) (fun _ => (PF.ite (fun _ => (PF.ret1 hq1)) (fun _ => PF.none))))))
theorem wkz_X2_packBranch_56 {s : ST} {x3 : Int32} {x4 : Int32} {σ : ST}   (h : KZA s σ) : PF st1 (KZA s) (f_X2_packBranch_56 x3 x4 σ) := by
  unfold f_X2_packBranch_56
  exact (PF.bnd (wkz_X2_putNumber  h) (fun q1 hq1 => (PF.ret1 hq1)))
theorem wkz_X2_packBranch_15 {s : ST}    : ∀ (n : Nat) (x1 : Int32) (x2 : Int32) (x3 : Int32) (x4 : Int32) (σ : ST), KZA s σ → PF st1 (KZA s) (f_X2_packBranch_15  n x1 x2 x3 x4 σ) := by
  intro n
  induction n with
  | zero => intro x1 x2 x3 x4 σ h; rw [f_X2_packBranch_15]; exact PF.none
  | succ n ih =>
    intro x1 x2 x3 x4 σ h
    rw [f_X2_packBranch_15]
    exact (PF.ite (fun _ => (wkz_X2_packBranch_56  h)) (fun _ => (PF.ite (fun _ => (wkz_X2_packBranch_56  h)) (fun _ => (PF.bnd (wkz_X5_sortOf  h) (fun q1 hq1 => (PF.ite (fun _ => (wkz_X2_packBranch_56  hq1)) (fun _ => (PF.bnd (wkz_X5_branchAfter  hq1) (fun q3 hq3 => (ih _ _ _ _ _ hq3)))))))))))
theorem wkz_X2_packBranch {s : ST} {p0 : Int32} {p1 : Int32} {σ : ST}   (h : KZA s σ) : PF st1 (KZA s) (f_X2_packBranch p0 p1 σ) := by
  unfold f_X2_packBranch
  exact (PF.bnd (wkz_X5_innerOf  h) (fun q1 hq1 => (wkz_X2_packBranch_15  _ _ _ _ _ _ hq1)))
theorem wkz_X7_sizeOf {s : ST} {b : Nat} {p0 : Int32} {σ : ST}   (h : KZA s σ) : PF st1 (KZA s) (f_X7_sizeOf b p0 σ) := by
  unfold f_X7_sizeOf
  exact (PF.bnd (wkz_X7_isRow  h) (fun q1 hq1 => (PF.ite (fun _ => (PF.ret1 hq1)) (fun _ => (PF.ite (fun _ => (PF.ret1 hq1)) (fun _ => PF.none))))))
theorem wkz_X2_packValue_95 {s : ST} {r_X2_packFields : Nat → Int32 → Int32 → Int32 → ST → Option (ST)} {r_X2_packValue : Nat → Int32 → Int32 → Int32 → ST → Option (ST)} {t : Nat} (h_r_X2_packFields : ∀ (x1 : Nat) (x2 : Int32) (x3 : Int32) (x4 : Int32) (σ : ST), KZA s σ → PF st0 (KZA s) (r_X2_packFields x1 x2 x3 x4 σ)) (h_r_X2_packValue : ∀ (x1 : Nat) (x2 : Int32) (x3 : Int32) (x4 : Int32) (σ : ST), KZA s σ → PF st0 (KZA s) (r_X2_packValue x1 x2 x3 x4 σ))  : ∀ (n : Nat) (x1 : Int32) (x2 : Int32) (x3 : Int32) (x4 : Int32) (σ : ST), KZA s σ → PF st0 (KZA s) (f_X2_packValue_95 r_X2_packFields r_X2_packValue t n x1 x2 x3 x4 σ) := by
  intro n
  induction n with
  | zero => intro x1 x2 x3 x4 σ h; rw [f_X2_packValue_95]; exact PF.none
  | succ n ih =>
    intro x1 x2 x3 x4 σ h
    rw [f_X2_packValue_95]
    exact (PF.ite (fun _ => (PF.ret0 h)) (fun _ => (PF.ite (fun _ => (PF.ret0 h)) (fun _ => (PF.bnd (wkz_X5_innerOf  h) (fun q1 hq1 => (PF.bnd (h_r_X2_packValue _ _ _ _ _ hq1) (fun q3 hq3 => (PF.bnd (wkz_X7_nextOf  hq3) (fun q5 hq5 => (ih _ _ _ _ _ hq5)))))))))))
theorem wkz_X7_worthOf {s : ST} {b : Nat} {p0 : Int32} {σ : ST}   (h : KZA s σ) : PF st1 (KZA s) (f_X7_worthOf b p0 σ) := by
  unfold f_X7_worthOf
  exact (PF.bnd (wkz_X7_isRow  h) (fun q1 hq1 => (PF.ite (fun _ => (PF.ret1 hq1)) (fun _ => (PF.ite (fun _ => (PF.ret1 hq1)) (fun _ => PF.none))))))
theorem wkz_X2_packValue_39 {s : ST} {r_X2_packFields : Nat → Int32 → Int32 → Int32 → ST → Option (ST)} {r_X2_packValue : Nat → Int32 → Int32 → Int32 → ST → Option (ST)} {t : Nat} {x2 : Int32} {x4 : Int32} {x5 : Int32} {y0 : Int32} {σ : ST} (h_r_X2_packFields : ∀ (x1 : Nat) (x2 : Int32) (x3 : Int32) (x4 : Int32) (σ : ST), KZA s σ → PF st0 (KZA s) (r_X2_packFields x1 x2 x3 x4 σ)) (h_r_X2_packValue : ∀ (x1 : Nat) (x2 : Int32) (x3 : Int32) (x4 : Int32) (σ : ST), KZA s σ → PF st0 (KZA s) (r_X2_packValue x1 x2 x3 x4 σ))  (h : KZA s σ) : PF st0 (KZA s) (f_X2_packValue_39 r_X2_packFields r_X2_packValue t x2 x4 x5 y0 σ) := by
  unfold f_X2_packValue_39
  exact (PF.ite (fun _ => (PF.bnd (wkz_X5_innerOf  h) (fun q11 hq11 => (PF.bnd (h_r_X2_packFields _ _ _ _ _ hq11) (fun q13 hq13 => (PF.ret0 hq13)))))) (fun _ => (PF.ite (fun _ => (PF.bnd (wkz_X7_sizeOf  h) (fun q5 hq5 => (PF.bnd (wkz_X2_putNumber  hq5) (fun q7 hq7 => (PF.bnd (wkz_X7_firstOf  hq7) (fun q9 hq9 => (wkz_X2_packValue_95 h_r_X2_packFields h_r_X2_packValue _ _ _ _ _ _ hq9)))))))) (fun _ => (PF.bnd (wkz_X7_worthOf  h) (fun q1 hq1 => (PF.bnd (wkz_X2_packPlain  hq1) (fun q3 hq3 => (PF.ret0 hq3)))))))))
theorem wkz_X2_packValue {s : ST} {r_X2_packFields : Nat → Int32 → Int32 → Int32 → ST → Option (ST)} {r_X2_packValue : Nat → Int32 → Int32 → Int32 → ST → Option (ST)} {t : Nat} {p1 : Int32} {p2 : Int32} {p3 : Int32} {σ : ST} (h_r_X2_packFields : ∀ (x1 : Nat) (x2 : Int32) (x3 : Int32) (x4 : Int32) (σ : ST), KZA s σ → PF st0 (KZA s) (r_X2_packFields x1 x2 x3 x4 σ)) (h_r_X2_packValue : ∀ (x1 : Nat) (x2 : Int32) (x3 : Int32) (x4 : Int32) (σ : ST), KZA s σ → PF st0 (KZA s) (r_X2_packValue x1 x2 x3 x4 σ))  (h : KZA s σ) : PF st0 (KZA s) (f_X2_packValue r_X2_packFields r_X2_packValue t p1 p2 p3 σ) := by
  unfold f_X2_packValue
  exact (PF.ite (fun _ => (PF.bnd (wkz_X7_sortAt  h) (fun q1 hq1 => (PF.bnd (wkz_X5_sortOf  hq1) (fun q3 hq3 => (PF.ite (fun _ => (PF.bnd (wkz_X2_packBranch  hq3) (fun q5 hq5 => (wkz_X2_packValue_39 h_r_X2_packFields h_r_X2_packValue hq5)))) (fun _ => (wkz_X2_packValue_39 h_r_X2_packFields h_r_X2_packValue hq3)))))))) (fun _ => (PF.ret0 h)))
theorem wkzR_X2_packFields {s : ST} : ∀ n : Nat, (∀ (t : Nat) (p1 : Int32) (p2 : Int32) (p3 : Int32) (σ : ST), KZA s σ → PF st0 (KZA s) ((R_X2_packFields n).1 t p1 p2 p3 σ)) ∧ (∀ (t : Nat) (p1 : Int32) (p2 : Int32) (p3 : Int32) (σ : ST), KZA s σ → PF st0 (KZA s) ((R_X2_packFields n).2 t p1 p2 p3 σ)) := by
  intro n
  induction n with
  | zero => exact ⟨fun _ _ _ _ _ _ => PF.none, fun _ _ _ _ _ _ => PF.none⟩
  | succ n ih => exact ⟨fun _ _ _ _ _ h => wkz_X2_packFields (ih.1) (ih.2)  h, fun _ _ _ _ _ h => wkz_X2_packValue (ih.1) (ih.2)  h⟩
theorem wkz_T_X2_packValue {s : ST} {t : Nat} {p1 : Int32} {p2 : Int32} {p3 : Int32} {σ : ST} (h : KZA s σ) : PF st0 (KZA s) (f_T_X2_packValue t p1 p2 p3 σ) := (wkzR_X2_packFields FR).2 _ _ _ _ _  h
theorem wkz_X2_pack {s : ST} {t : Nat} {p1 : Int32} {σ : ST}   (h : KZA s σ) : PF st0 (KZA s) (f_X2_pack t p1 σ) := by
  unfold f_X2_pack
  exact (PF.bnd (wkz_T_X2_packValue (KZA.i (by omega) h)) (fun q1 hq1 => (PF.ret0 hq1)))
theorem wkz_X1_store {s : ST} {p0 : Int32} {p1 : Int32} {σ : ST}   (h : KZA s σ) : PF st0 (KZA s) (f_X1_store p0 p1 σ) := by
  unfold f_X1_store
  exact (PF.bnd (wkz_X1_isNumber  h) (fun q1 hq1 => (PF.ite (fun _ => (PF.ret0 hq1)) (fun _ => (PF.ite (fun _ => (PF.ret0 hq1)) (fun _ => (PF.ite (fun _ => (PF.bnd (PF.ret0 (KZA.f (by omega) hq1)) (fun z3 hz3 => (PF.ite (fun _ => (PF.ret0 (KZA.i (by omega) (KZA.i (by omega) hz3)))) (fun _ => PF.none))))) (fun _ => PF.none))))))))
theorem wkz_X10_write {s : ST} {p0 : Int32} {p1 : Int32} {p2 : Int32} {σ : ST}   (h : KZA s σ) : PF st1 (KZA s) (f_X10_write p0 p1 p2 σ) := by
  unfold f_X10_write
  exact (PF.bnd (wkz_X1_isNumber  h) (fun q1 hq1 => (PF.ite (fun _ => (PF.ret1 hq1)) (fun _ => (PF.bnd (wkz_X10_isPlan  hq1) (fun q3 hq3 => (PF.ite (fun _ => (PF.ret1 hq3)) (fun _ => (PF.ite (fun _ => (PF.ret1 hq3)) (fun _ => (PF.ite (fun _ => (PF.bnd (wkz_X6_begin  (KZA.i (by omega) hq3)) (fun q5 hq5 => (PF.bnd (wkz_X5_rootType  hq5) (fun q7 hq7 => (PF.bnd (wkz_X8_parse  hq7) (fun q9 hq9 => (PF.ite (fun _ => (PF.bnd (wkz_X6_faultAnswer  hq9) (fun q21 hq21 => (PF.ret1 hq21)))) (fun _ => (PF.bnd (wkz_X5_rootType  hq9) (fun q11 hq11 => (PF.bnd (wkz_X2_pack  hq11) (fun q13 hq13 => (PF.ite (fun _ => (PF.bnd (wkz_X1_store  hq13) (fun q15 hq15 => (PF.ret1 hq15)))) (fun _ => (PF.bnd (wkz_X6_refuse  hq13) (fun q17 hq17 => (PF.bnd (wkz_X6_faultAnswer  hq17) (fun q19 hq19 => (PF.ret1 hq19)))))))))))))))))))) (fun _ => (PF.ret1 hq3)))))))))))))
theorem wkz_X1_isWritten {s : ST} {p0 : Int32} {σ : ST}   (h : KZA s σ) : PF st1 (KZA s) (f_X1_isWritten p0 σ) := by
  unfold f_X1_isWritten
  exact (PF.bnd (wkz_X1_isNumber  h) (fun q1 hq1 => (PF.ite (fun _ => (PF.ret1 hq1)) (fun _ => (PF.ite (fun _ => (PF.ite (fun _ => (PF.ret1 hq1)) (fun _ => (PF.ret1 hq1)))) (fun _ => PF.none))))))
theorem wkz_X1_hasByte {s : ST} {p0 : Int32} {p1 : Int32} {σ : ST}   (h : KZA s σ) : PF st1 (KZA s) (f_X1_hasByte p0 p1 σ) := by
  unfold f_X1_hasByte
  exact (PF.bnd (wkz_X1_isWritten  h) (fun q1 hq1 => (PF.ite (fun _ => (PF.ret1 hq1)) (fun _ => (PF.ite (fun _ => (PF.ret1 hq1)) (fun _ => (PF.ite (fun _ => (PF.ite (fun _ => (PF.ret1 hq1)) (fun _ => (PF.ite (fun _ => (PF.ret1 hq1)) (fun _ => (PF.ret1 hq1)))))) (fun _ => PF.none))))))))
theorem wkz_X1_byteOf {s : ST} {p0 : Int32} {p1 : Int32} {σ : ST}   (h : KZA s σ) : PF st1 (KZA s) (f_X1_byteOf p0 p1 σ) := by
  unfold f_X1_byteOf
  exact (PF.ite (fun _ => (PF.ret1 h)) (fun _ => (PF.ite (fun _ => (PF.ret1 h)) (fun _ => (PF.ite (fun _ => (PF.ret1 h)) (fun _ => PF.none))))))
theorem wkz_X1_change {s : ST} {p0 : Int32} {p1 : Int32} {p2 : Int32} {σ : ST}   (h : KZA s σ) : PF st1 (KZA s) (f_X1_change p0 p1 p2 σ) := by
  unfold f_X1_change
  exact (PF.bnd (wkz_X1_byteOf  h) (fun q1 hq1 => (PF.bnd (wkz_X1_hasByte  hq1) (fun q3 hq3 => (PF.ite (fun _ => (PF.ret1 hq3)) (fun _ => (PF.ite (fun _ => (PF.bnd (PF.ret0 (KZA.i (by omega) hq3)) (fun z6 hz6 => (PF.ret1 hz6)))) (fun _ => PF.none))))))))
theorem wkz_X10_spoil {s : ST} {p0 : Int32} {p1 : Int32} {p2 : Int32} {σ : ST}   (h : KZA s σ) : PF st1 (KZA s) (f_X10_spoil p0 p1 p2 σ) := by
  unfold f_X10_spoil
  exact (PF.bnd (wkz_X1_hasByte  h) (fun q1 hq1 => (PF.ite (fun _ => (PF.ret1 hq1)) (fun _ => (PF.bnd (wkz_X1_change  hq1) (fun q3 hq3 => (PF.ret1 hq3)))))))
theorem wkz_X1_sizeOf {s : ST} {p0 : Int32} {σ : ST}   (h : KZA s σ) : PF st1 (KZA s) (f_X1_sizeOf p0 σ) := by
  unfold f_X1_sizeOf
  exact (PF.bnd (wkz_X1_isNumber  h) (fun q1 hq1 => (PF.ite (fun _ => (PF.ret1 hq1)) (fun _ => (PF.ite (fun _ => (PF.ret1 hq1)) (fun _ => PF.none))))))
theorem wkz_X1_shorten {s : ST} {p0 : Int32} {p1 : Int32} {σ : ST}   (h : KZA s σ) : PF st1 (KZA s) (f_X1_shorten p0 p1 σ) := by
  unfold f_X1_shorten
  exact (PF.bnd (wkz_X1_sizeOf  h) (fun q1 hq1 => (PF.bnd (wkz_X1_isNumber  hq1) (fun q3 hq3 => (PF.ite (fun _ => (PF.ret1 hq3)) (fun _ => (PF.ite (fun _ => (PF.ret1 (KZA.i (by omega) hq3))) (fun _ => PF.none))))))))
theorem wkz_X10_cut {s : ST} {p0 : Int32} {p1 : Int32} {σ : ST}   (h : KZA s σ) : PF st1 (KZA s) (f_X10_cut p0 p1 σ) := by
  unfold f_X10_cut
  exact (PF.bnd (wkz_X1_isWritten  h) (fun q1 hq1 => (PF.ite (fun _ => (PF.ret1 hq1)) (fun _ => (PF.ite (fun _ => (PF.ret1 hq1)) (fun _ => (PF.bnd (wkz_X1_sizeOf  hq1) (fun q3 hq3 => (PF.ite (fun _ => (PF.bnd (wkz_X1_shorten  hq3) (fun q5 hq5 => (PF.ret1 hq5)))) (fun _ => (PF.ret1 hq3)))))))))))
