theorem kR_X8_parseFields : ∀ n : Nat, (∀ (p0 : Int32) (p1 : Int32) (p2 : Int32) (σ : ST), IA σ → 0 ≤ p2.toInt ∧ p2.toInt ≤ 30 ∧ (63 : Int) ≤ (n : Nat) + 2 * p2.toInt → OK ((R_X8_parseFields n).1 p0 p1 p2 σ) (RW σ fun v => v.toInt = 0 ∨ v.toInt = 1)) ∧ (∀ (p0 : Int32) (p1 : Int32) (p2 : Int32) (σ : ST), IA σ → 0 ≤ p2.toInt ∧ p2.toInt ≤ 30 ∧ (63 : Int) ≤ (n : Nat) + 2 * p2.toInt → OK ((R_X8_parseFields n).2.1 p0 p1 p2 σ) (RW σ fun v => v.toInt = 0 ∨ v.toInt = 1)) ∧ (∀ (p0 : Int32) (p1 : Int32) (p2 : Int32) (p3 : Int32) (σ : ST), IA σ → 0 ≤ p3.toInt ∧ p3.toInt ≤ 31 ∧ (64 : Int) ≤ (n : Nat) + 2 * p3.toInt → OK ((R_X8_parseFields n).2.2 p0 p1 p2 p3 σ) (RW σ fun v => v.toInt = 0 ∨ v.toInt = 1)) := by
  intro n
  induction n with
  | zero =>
    refine ⟨?_, ?_, ?_⟩
    · intro p0 p1 p2 σ hI hv; omega
    · intro p0 p1 p2 σ hI hv; omega
    · intro p0 p1 p2 p3 σ hI hv; omega
  | succ n ih =>
    obtain ⟨ih0, ih1, ih2⟩ := ih
    refine ⟨?_, ?_, ?_⟩
    · intro p0 p1 p2 σ hI hv; exact k_X8_parseFields (N0 := n) ih0 ih1 ih2 p0 p1 p2 σ hI (by omega)
    · intro p0 p1 p2 σ hI hv; exact k_X8_parseItems (N0 := n) ih0 ih1 ih2 p0 p1 p2 σ hI (by omega)
    · intro p0 p1 p2 p3 σ hI hv; exact k_X8_parseValue (N0 := n) ih0 ih1 ih2 p0 p1 p2 p3 σ hI (by omega)
theorem kT_X8_parseFields (p0 : Int32) (p1 : Int32) (p2 : Int32) (σ : ST) (hI : IA σ) (hv : 0 ≤ p2.toInt ∧ p2.toInt ≤ 30 ∧ (63 : Int) ≤ (FR : Nat) + 2 * p2.toInt) : OK (f_T_X8_parseFields p0 p1 p2 σ) (RW σ fun v => v.toInt = 0 ∨ v.toInt = 1) := (kR_X8_parseFields FR).1 p0 p1 p2 σ hI hv
theorem kT_X8_parseItems (p0 : Int32) (p1 : Int32) (p2 : Int32) (σ : ST) (hI : IA σ) (hv : 0 ≤ p2.toInt ∧ p2.toInt ≤ 30 ∧ (63 : Int) ≤ (FR : Nat) + 2 * p2.toInt) : OK (f_T_X8_parseItems p0 p1 p2 σ) (RW σ fun v => v.toInt = 0 ∨ v.toInt = 1) := (kR_X8_parseFields FR).2.1 p0 p1 p2 σ hI hv
theorem kT_X8_parseValue (p0 : Int32) (p1 : Int32) (p2 : Int32) (p3 : Int32) (σ : ST) (hI : IA σ) (hv : 0 ≤ p3.toInt ∧ p3.toInt ≤ 31 ∧ (64 : Int) ≤ (FR : Nat) + 2 * p3.toInt) : OK (f_T_X8_parseValue p0 p1 p2 p3 σ) (RW σ fun v => v.toInt = 0 ∨ v.toInt = 1) := (kR_X8_parseFields FR).2.2 p0 p1 p2 p3 σ hI hv

theorem k_X8_parse_41 (σ : ST) (hI : IA σ)  : OK (f_X8_parse_41  σ) (RO σ fun v => v.toInt = 0 ∨ v.toInt = 1) := by
  unfold f_X8_parse_41
  have lt_0 := li_0
  have lt_1 := li_1
  have lFU : ((FU : Nat) : Int) = 100000 := rfl
  exact OK.roret (by first | trivial | omega | exact hI.flds _ | exact hI.dflds _ | exact hI.recs _ | exact hI.drecs _ | exact hI.droot _ | omega)

theorem k_X8_parse (p0 : Int32) (σ : ST) (hI : IA σ)  : OK (f_X8_parse  p0 σ) (RW σ fun v => v.toInt = 0 ∨ v.toInt = 1) := by
  unfold f_X8_parse
  have lt_m1 := li_m1
  have lt_0 := li_0
  have lt_1 := li_1
  have lFU : ((FU : Nat) : Int) = 100000 := rfl
  have lFR : ((FR : Nat) : Int) = 160 := rfl
  refine OK.bndS (k_X7_clear_62 _ hI ) Fr.rf (fun s1 is1 fs1 => ?_)
  try dsimp only
  refine OK.bndW (kT_X8_parseValue _ _ _ _ _ is1 (by omega)) fs1 (fun v2 s4 is4 fs4 h3 => ?_)
  dsimp only
  refine OK.ieq (fun h5 => ?_) (fun h5 => ?_)
  · skip
    exact OK.wret is4 fs4 (by first | trivial | omega | exact hI.flds _ | exact hI.dflds _ | exact hI.recs _ | exact hI.drecs _ | exact hI.droot _ | omega)
  · skip
    refine OK.ieq (fun h6 => ?_) (fun h6 => ?_)
    · skip
      exact OK.row (k_X8_parse_41 _ is4 ) is4 fs4 (fun v hv => by first | trivial | omega | exact hI.flds _ | exact hI.dflds _ | exact hI.recs _ | exact hI.drecs _ | exact hI.droot _ | omega)
    · skip
      refine OK.bndW (k_X6_refuse _ _ is4 ) fs4 (fun v7 s9 is9 fs9 h8 => ?_)
      dsimp only
      refine OK.ieq (fun h10 => ?_) (fun h10 => ?_)
      · skip
        exact OK.wret is9 fs9 (by first | trivial | omega | exact hI.flds _ | exact hI.dflds _ | exact hI.recs _ | exact hI.drecs _ | exact hI.droot _ | omega)
      · skip
        exact OK.row (k_X8_parse_41 _ is9 ) is9 fs9 (fun v hv => by first | trivial | omega | exact hI.flds _ | exact hI.dflds _ | exact hI.recs _ | exact hI.drecs _ | exact hI.droot _ | omega)
