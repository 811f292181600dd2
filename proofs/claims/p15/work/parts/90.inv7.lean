/-! what holds after n calls, with the matchings -/
theorem PHB.dnb {p : Nat} {σ τ : ST} (h : PHB 4 p σ τ) : DNB p τ := by
  intro i j hij hj e
  have hi := h.2.2.2 i (by omega)
  have hj' := h.2.2.2 j hj
  have hd := hj'.1.2 i hij
  have hd : ¬ σ.2.1 8 (6 * p + i) = σ.2.1 8 (6 * p + j) := hd
  have wi : WL (σ.2.1 8 (6 * p + i)) (τ.2.1 9 (6 * p + i)) := hi.1.1
  have wj : WL (σ.2.1 8 (6 * p + j)) (τ.2.1 9 (6 * p + j)) := hj'.1.1
  exact hd ((wi.iff wj).mpr e)
theorem T5.dns {σ τ : ST} (h : T5 σ τ) : DNs τ := fun p hp => (h p hp).dnb
theorem inv7_plans {n κ : Nat} {σ τ : ST} (h : Inv n σ τ κ) (hn : n < 512) (p0 : Int32) (hZ : MZ τ σ) : ∃ (qa : Int32 × ST) (qb : (Int32 × ST) × Nat), f_X10_plans p0 σ = some qa ∧ f_X11_plans p0 τ = some qb ∧ Inv (n + 1) qa.2 qb.1.2 (κ + qb.2) ∧ MZ qb.1.2 qa.2 := by
  have hT5 := hZ.2.1.1
  obtain ⟨_, hA, hB, hF, h32, hk, hT, hc⟩ := h
  have ht := hA.tape
  have e2 : (τ.1 0 2).toInt = (σ.1 0 1).toInt := by rw [hF.1]
  have l0 := l64_0
  have i0 := i64 p0
  have l0' := li_0
  obtain ⟨qa, ea, q1, ⟨q2, q3⟩, q4⟩ := k_X10_plans p0 σ hA
  have hs := hB.th 0
  have s1 : (stI τ 0 0 0).1 1 = τ.1 1 := rfl
  have s2 : (stI τ 0 0 0).1 0 2 = τ.1 0 2 := rfl
  have s32 : (stI τ 0 0 0).1 0 32 = τ.1 0 32 := rfl
  have s9 : ∀ c, c ≠ 0 → (stI τ 0 0 0).1 c = τ.1 c := fun c hc => stI_ne hc
  have sL : (stI τ 0 0 0).2.1 = τ.2.1 := rfl
  have hb : ∃ qb : (Int32 × ST) × Nat, f_X11_plans p0 τ = some qb ∧ Inv (n + 1) qa.2 qb.1.2 (κ + qb.2) ∧ MZ qb.1.2 qa.2 := by
    unfold f_X11_plans
    generalize stI τ 0 0 0 = s at hs s1 s2 s32 s9 sL
    have kr : KR τ s := KR.eq (fun c hc => s9 c (fun e => by rw [e] at hc; revert hc; decide)) (fun c _ => by rw [sL])
    have hZs : MZ s σ := hZ.yok ⟨kr, s32, hs⟩
    have i2 := i64 (s.1 0 2)
    have e2' : (s.1 0 2).toInt = (σ.1 0 1).toInt := by rw [s2]; exact e2
    have ok : OK ((f_X11_within (p0.toInt64) 0 ((s.1 0 2).toInt64) s).bind fun q1 => if q1.1 = 0 then (some (((-1), q1.2), 0)) else ((f_X11_begins p0 q1.2).bind fun q3 => (f_X11_plan (stI (stI q3 0 33 0) 0 34 400)).bind fun q5 => ac q5.2 (f_X11_plans_43 FU q5.1.1 q5.1.2))) (fun qb => Inv (n + 1) qa.2 qb.1.2 (κ + qb.2) ∧ MZ qb.1.2 qa.2) := by
      refine OK.bndR (b_within _ _ _ _) (fun v hv => ?_)
      dsimp only
      rcases q4 with ⟨c, q4⟩ | ⟨c, q01, t1, r, t2, e1, e3, q5, q6⟩
      · refine OK.ieq (fun _ => ?_) (fun h => by omega)
        refine OK.ret ⟨⟨by omega, q1, hs, ⟨?_, ?_⟩, ?_, ?_, ?_, ?_⟩, by rw [q4]; exact hZs⟩
        · show qa.2.1 0 1 = s.1 0 2
          rw [q4, s2, hF.1]
        · show qa.2.1 1 = s.1 1
          rw [q4, s1, hF.2]
        · show qa.2.1 4 0 = s.1 0 32
          rw [q4, s32, h32]
        · rw [q4]
          exact hk
        · rw [q4]
          exact hT
        · show ((κ + 0 : Nat) : Int) + 40 * (qa.2.1 0 1).toInt ≤ 950 * ((n + 1 : Nat) : Int)
          rw [q4]
          omega
      · refine OK.ieq (fun h => by omega) (fun _ => ?_)
        have hp1000 : p0.toInt ≤ 1000 := by
          have := ht.2
          omega
        have hb := ab_plans p0 (stI σ 0 1 0) s (by rw [s1]; exact hF.2) (by rw [s1, ← hF.2]; exact hT) hk hs ⟨c.1, hp1000⟩ t1 e1 r t2 e3
        refine hb.mono (fun y hy => ?_)
        obtain ⟨y0, y1, y2, y3, y4⟩ := hy
        have k5 := k6_plans p0 σ qa ea c t1 r t2 e1 e3
        have k7 := k7_plans p0 σ qa ea c t1 r t2 e1 e3
        refine ⟨⟨by omega, q1, y1, ⟨?_, ?_⟩, ?_, ?_, ?_, ?_⟩, ?_⟩
        · rw [q01, y3]
        · rw [q2, y2, s1, hF.2]
        · rcases y4 with ⟨r0, y5, _⟩ | ⟨r0, y5, _⟩
          · rw [q5 r0, y5, s32, h32]
          · rw [q6 r0]
            exact Int32.toInt_inj.mp y5.symm
        · rw [q3]
          exact hk
        · show T8 qa.2
          unfold T8
          rw [q2]
          exact hT
        · rw [q01, l0']
          omega
        · rcases y4 with ⟨r0, y5, yK⟩ | ⟨r0, y5, yT⟩
          · exact (hZs.frm ⟨k5.1 r0, k7.1 r0⟩).yok ⟨yK, y5, y1⟩
          · have hT' : T5 qa.2 y.1.2 := by
              intro p hp
              have h6 := y1.1.1.2
              exact k5.2 r0 p _ (by omega) (yT p (by omega))
            exact (k7.2 r0).mz hT' hT'.dns y1
    obtain ⟨qb, eb, hq⟩ := ok
    exact ⟨qb, eb, hq⟩
  obtain ⟨qb, eb, hq⟩ := hb
  exact ⟨qa, qb, ea, eb, hq⟩
def Inv7 (n : Nat) (σ τ : ST) (κ : Nat) : Prop := Inv n σ τ κ ∧ MZ τ σ
theorem inv7_call (n : Nat) (σ τ : ST) (κ : Nat) (h : Inv7 n σ τ κ) (hn : n < 512) (j : Nat) (pr : Nat → Int32) : ∃ (qa : Int32 × ST) (qb : (Int32 × ST) × Nat), fA j pr σ = some qa ∧ fB j pr τ = some qb ∧ Inv7 (n + 1) qa.2 qb.1.2 (κ + qb.2) := by
  obtain ⟨hI, hZ⟩ := h
  by_cases h1 : j = 1
  · subst h1
    exact inv7_plans hI hn (pr 1) hZ
  have h4 : σ.1 4 0 = τ.1 0 32 := hI.2.2.2.2.1
  obtain ⟨qa, qb, ea, eb, hI', _⟩ := inv_call n σ τ κ hI hn j pr
  have kA : KTA σ qa.2 := w_fA j h1 pr σ qa ea
  have kB : KTB τ qb.1.2 := w_fB j h1 pr τ qb eb
  have h5 : qa.2.1 4 0 = qb.1.2.1 0 32 := hI'.2.2.2.2.1
  have e4 : qa.2.1 4 = σ.1 4 := (kA 4 (by omega) (by omega)).1
  have z : MZ τ qa.2 := mz_fA j h1 pr hZ h4 qa ea
  exact ⟨qa, qb, ea, eb, hI', z.yok ⟨kB.kr, by rw [← h5, e4, h4], hI'.2.2.1⟩⟩
theorem inv7_room (n : Nat) (σ τ : ST) (κ : Nat) (h : Inv7 n σ τ κ) : κ ≤ 500000 := inv_room n σ τ κ h.1
theorem clr_0 : CLR s0A := by
  refine ⟨?_, ?_, ?_, ?_⟩
  · rfl
  · rfl
  · decide
  · decide
theorem inv7_0 : Inv7 0 s0A s0B 0 := ⟨inv_0, clr_0.mz t5_0 t5_0.dns ib_0⟩
