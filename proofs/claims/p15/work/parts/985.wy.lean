/-! what the calls that are not about messages leave, all of them -/
theorem wy_L_byteAt {s : ST} {p0 p1 : Int32} {σ : ST} (h : KYA s σ) : PF st1 (KYA s) (f_L_byteAt p0 p1 σ) := by
  unfold f_L_byteAt
  refine PF.bnd (wy_X10_byteAt h) (fun q hq => ?_)
  cases q.1 with
  | none => exact PF.ret1 hq
  | some r => exact PF.ret1 (KYA.l (by omega) hq)
theorem wy_L_node {s : ST} {p0 p1 : Int32} {σ : ST} (h : KYA s σ) : PF st1 (KYA s) (f_L_node p0 p1 σ) := by
  unfold f_L_node
  refine PF.bnd (wy_X10_node h) (fun q hq => ?_)
  cases q.1 with
  | none => exact PF.ret1 hq
  | some r => exact PF.ret1 (KYA.l (by omega) hq)
theorem wy_L_letter {s : ST} {p0 p1 : Int32} {σ : ST} (h : KYA s σ) : PF st1 (KYA s) (f_L_letter p0 p1 σ) := by
  unfold f_L_letter
  refine PF.bnd (wy_X10_letter h) (fun q hq => ?_)
  cases q.1 with
  | none => exact PF.ret1 hq
  | some r => exact PF.ret1 (KYA.l (by omega) hq)
theorem wy_L_value {s : ST} {p0 : Int32} {σ : ST} (h : KYA s σ) : PF st1 (KYA s) (f_L_value p0 σ) := by
  unfold f_L_value
  refine PF.bnd (wy_X10_value h) (fun q hq => ?_)
  cases q.1 with
  | none => exact PF.ret1 hq
  | some r => exact PF.ret1 (KYA.l (by omega) hq)
theorem wy_fA (j : Nat) (h1 : j ≠ 1 ∧ j ≠ 2 ∧ j ≠ 7 ∧ j ≠ 8 ∧ j ≠ 13 ∧ j ≠ 19) (pr : Nat → Int32) (σ : ST) : PF st1 (KYA σ) (fA j pr σ) := by
  match j, h1 with
  | 1, h => exact absurd rfl (h.1)
  | 2, h => exact absurd rfl (h.2.1)
  | 7, h => exact absurd rfl (h.2.2.1)
  | 8, h => exact absurd rfl (h.2.2.2.1)
  | 13, h => exact absurd rfl (h.2.2.2.2.1)
  | 19, h => exact absurd rfl (h.2.2.2.2.2)
  | 0, _ => exact wy_X10_feed KYA.rf
  | 3, _ => exact wy_X10_record KYA.rf
  | 4, _ => exact wy_X10_field KYA.rf
  | 5, _ => exact wy_X10_message KYA.rf
  | 6, _ => exact wy_L_byteAt KYA.rf
  | 9, _ => exact wy_X10_matches KYA.rf
  | 10, _ => exact wy_X10_miss KYA.rf
  | 11, _ => exact wy_X10_missStep KYA.rf
  | 12, _ => exact wy_X10_readers KYA.rf
  | 14, _ => exact wy_X10_failure KYA.rf
  | 15, _ => exact wy_X10_failureStep KYA.rf
  | 16, _ => exact wy_L_node KYA.rf
  | 17, _ => exact wy_L_value KYA.rf
  | 18, _ => exact wy_L_letter KYA.rf
  | 20, _ => exact wy_X10_alike KYA.rf
  | 21, _ => exact wy_X10_kept KYA.rf
  | 22, _ => exact wy_X10_count KYA.rf
  | j + 23, _ => exact PF.ret1 KYA.rf
theorem wy_fB (j : Nat) (h1 : j ≠ 1 ∧ j ≠ 2 ∧ j ≠ 7 ∧ j ≠ 8 ∧ j ≠ 13 ∧ j ≠ 19) (pr : Nat → Int32) (τ : ST) : PF st2 (KYB τ) (fB j pr τ) := by
  match j, h1 with
  | 1, h => exact absurd rfl (h.1)
  | 2, h => exact absurd rfl (h.2.1)
  | 7, h => exact absurd rfl (h.2.2.1)
  | 8, h => exact absurd rfl (h.2.2.2.1)
  | 13, h => exact absurd rfl (h.2.2.2.2.1)
  | 19, h => exact absurd rfl (h.2.2.2.2.2)
  | 0, _ => exact PF.bnd (wy_X11_feed KYB.rf) (fun q hq => PF.ret2 hq)
  | 3, _ => exact PF.bnd (wy_X11_record_ KYB.rf) (fun q hq => PF.ret2 hq)
  | 4, _ => exact PF.bnd (wy_X11_field_ KYB.rf) (fun q hq => PF.ret2 hq)
  | 5, _ => exact PF.bnd (wy_X11_message KYB.rf) (fun q hq => PF.ret2 hq)
  | 6, _ => exact PF.bnd (wy_X11_byteAt_ KYB.rf) (fun q hq => PF.ret2 hq)
  | 9, _ => exact PF.bnd (wy_X11_matches KYB.rf) (fun q hq => PF.ret2 hq)
  | 10, _ => exact PF.bnd (wy_X11_miss KYB.rf) (fun q hq => PF.ret2 hq)
  | 11, _ => exact PF.bnd (wy_X11_missStep KYB.rf) (fun q hq => PF.ret2 hq)
  | 12, _ => exact PF.bnd (wy_X11_readers KYB.rf) (fun q hq => PF.ret2 hq)
  | 14, _ => exact PF.bnd (wy_X11_failure KYB.rf) (fun q hq => PF.ret2 hq)
  | 15, _ => exact PF.bnd (wy_X11_failureStep KYB.rf) (fun q hq => PF.ret2 hq)
  | 16, _ => exact PF.bnd (wy_X11_node KYB.rf) (fun q hq => PF.ret2 hq)
  | 17, _ => exact PF.bnd (wy_X11_value_ KYB.rf) (fun q hq => PF.ret2 hq)
  | 18, _ => exact PF.bnd (wy_X11_letter KYB.rf) (fun q hq => PF.ret2 hq)
  | 20, _ => exact PF.bnd (wy_X11_alike KYB.rf) (fun q hq => PF.ret2 hq)
  | 21, _ => exact PF.bnd (wy_X11_kept KYB.rf) (fun q hq => PF.ret2 hq)
  | 22, _ => exact PF.bnd (wy_X11_count KYB.rf) (fun q hq => PF.ret2 hq)
  | j + 23, _ => exact PF.ret2 KYB.rf
