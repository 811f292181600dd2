/-! what a literal is worth: both alike -/
/-- what the machine tells of a double -/
def DTL (x : UInt64) (v : Int64) : Prop := ∀ σ : ST, f_Jxe99ae_doubleToLongBits_ccdee x σ = some (v, σ)
theorem dtl_ex (x : UInt64) : ∃ v, DTL x v := by
  refine ⟨if (Op.cmpValue (FP.dcmp x x) .l) = 0 then x.toInt64 else 9221120237041090560, fun σ => ?_⟩
  unfold f_Jxe99ae_doubleToLongBits_ccdee f_Jxe99ae_isNaN_b9ae7
  by_cases h : (Op.cmpValue (FP.dcmp x x) .l) = 0
  · rw [if_pos h, if_pos h]
    rfl
  · rw [if_neg h, if_neg h]
    rfl
theorem DTL.uniq {x : UInt64} {v w : Int64} (h : DTL x v) (k : DTL x w) : v = w := by
  have e := (h s00).symm.trans (k s00)
  exact (Prod.mk.inj (Option.some.inj e)).1
theorem dtl_num {x : UInt64} (h : ¬ FP.Core.val64 x = .nan) : DTL x x.toInt64 := by
  intro σ
  unfold f_Jxe99ae_doubleToLongBits_ccdee f_Jxe99ae_isNaN_b9ae7
  have e : FP.dcmp x x = some .eq := FP.Core.dcmp_self h
  rw [(cv_eq e).1]
  rfl
/-- the reference's bits of a literal -/
def BTS (s : Int) (τ : ST) (v : Int64) : Prop := (s = 1 → (W_ τ v_yes ∧ v = 1 ∨ ¬ W_ τ v_yes ∧ v = 0)) ∧ (s = 2 ∨ s = 3 → v = τ.2.1 0 9) ∧ (s = 4 → DTL (if (τ.1 0 10).toInt = 0 then FP.l2d (τ.2.1 0 9) else τ.2.2.1 0 11) v) ∧ (¬ (1 ≤ s ∧ s ≤ 4) → v = 0)
theorem bx_bitsOf (p0 : Int32) (σ : ST) (h0 : 0 ≤ p0.toInt ∧ p0.toInt < 800) : OK (f_X11_bitsOf p0 σ) (KO σ 1 fun v => BTS (σ.1 2 p0.toNatClampNeg).toInt σ v) := by
  unfold f_X11_bitsOf f_X11_bitsOf_31 f_X11_bitsOf_65
  have l0 := li_0
  have l1 := li_1
  have l2 := li_2
  have l3 := li_3
  have l4 := li_4
  refine OK.grd h0 ?_
  have dt : ∀ x : UInt64, (σ.1 2 p0.toNatClampNeg).toInt = 4 → x = (if (σ.1 0 10).toInt = 0 then FP.l2d (σ.2.1 0 9) else σ.2.2.1 0 11) → OK ((f_Jxe99ae_doubleToLongBits_ccdee x σ).bind fun q1 => some ((q1.1, q1.2), 0)) (KO σ 1 fun v => BTS (σ.1 2 p0.toNatClampNeg).toInt σ v) := fun x h4 hx => by
    obtain ⟨v, hv⟩ := dtl_ex x
    rw [hv σ]
    refine OK.kret ⟨fun h => by omega, fun h => by omega, fun _ => ?_, fun h => by omega⟩ (Nat.zero_le _)
    rw [← hx]
    exact hv
  refine OK.ieq (fun h4 => ?_) (fun h4 => ?_)
  · refine OK.ieq (fun h => dt _ (by omega) ?_) (fun h => dt _ (by omega) ?_)
    · rw [if_pos (by omega)]
    · rw [if_neg (by omega)]
  refine OK.ieq (fun h1 => ?_) (fun h1 => ?_)
  · refine OK.bndK (b_isYes σ) (fun v x hv hx => ?_)
    refine OK.kac ?_
    dsimp only
    refine OK.ieq (fun hv0 => ⟨_, rfl, rfl, ⟨fun _ => ?_, fun h => by omega, fun h => by omega, fun h => by omega⟩, hx⟩) (fun hv0 => ⟨_, rfl, rfl, ⟨fun _ => ?_, fun h => by omega, fun h => by omega, fun h => by omega⟩, hx⟩)
    · rcases hv with hv | hv
      · exact .inr ⟨hv.2, rfl⟩
      · have := hv.1
        omega
    · rcases hv with hv | hv
      · have := hv.1
        omega
      · exact .inl ⟨hv.2, rfl⟩
  refine OK.ieq (fun h2 => OK.kret ⟨fun h => by omega, fun _ => rfl, fun h => by omega, fun h => by omega⟩ (Nat.zero_le _)) (fun h2 => ?_)
  refine OK.ieq (fun h3 => OK.kret ⟨fun h => by omega, fun _ => rfl, fun h => by omega, fun h => by omega⟩ (Nat.zero_le _)) (fun h3 => ?_)
  exact OK.kret ⟨fun h => by omega, fun h => by omega, fun h => by omega, fun _ => rfl⟩ (Nat.zero_le _)
/-- what stands for a value: the class's number, the reference's bits, text and how many letters -/
def EWR (s : Int) (w b t : Int64) (n : Int32) : Prop := if s = 5 then b = 0 ∧ WLT w t n else w = b ∧ t = 0 ∧ n.toInt = 0
theorem sbnd_ {α β : Type} {e : α} {f : α → Option β} : (some e).bind f = f e := rfl
/-- a number's token has a point, or none -/
theorem dot01 {σ τ : ST} (hX : LX σ τ) (h : (τ.1 0 6).toInt = 2) : (τ.1 0 10).toInt = 0 ∨ (τ.1 0 10).toInt = 1 := by
  obtain ⟨s, _, _, hT⟩ := hX.tb
  rcases hT with h1 | h1 | h1 | h1 | h1
  · have := h1.2.1
    omega
  · obtain ⟨_, _, m, _, _, _, _, h6⟩ := h1
    omega
  · rcases h1.2 with ⟨_, m, _, _, _, n4⟩ | ⟨_, m, _, _, _, n4⟩
    · exact n4.elim (fun h => .inr h.2.2.1) (fun h => .inl h.2.1)
    · exact n4.elim (fun h => .inr h.2.2.1) (fun h => .inl h.2.1)
  · obtain ⟨_, _, m, _, _, _, h6⟩ := h1
    omega
  · have : (τ.1 0 6).toInt = 4 ∨ (τ.1 0 6).toInt = 5 := h1.2.2.elim (fun h => .inl h.2.1) (fun h => .inr h.2.1)
    omega
/-- only a text fits a lettered token -/
theorem ft_n5 {τ : ST} {s : Int} (hF : FT_ τ s) (h5 : ¬ s = 5) (h13 : (τ.1 0 6).toInt = 3 → (τ.1 0 13).toInt = 0) : ¬ (τ.1 0 6).toInt = 3 := by
  intro h3
  by_cases hs : 0 ≤ s ∧ s ≤ 7
  · have h : s = 0 ∨ s = 1 ∨ s = 2 ∨ s = 3 ∨ s = 4 ∨ s = 6 ∨ s = 7 := by omega
    rcases h with rfl | rfl | rfl | rfl | rfl | rfl | rfl
    · have := (ft_0.mp hF).1
      omega
    · have : (τ.1 0 6).toInt = 1 := (ft_1.mp hF).elim (fun h => h.1) (fun h => h.1)
      omega
    · have := (ft_2.mp hF).1
      omega
    · have := (ft_3.mp hF).1
      omega
    · have := ft_4.mp hF
      omega
    · have := ft_6.mp hF
      have := h13 h3
      omega
    · have := ft_7.mp hF
      have := h13 h3
      omega
  · exact ft_8 hs hF
theorem LX.q13 {σ τ : ST} (hX : LX σ τ) (h : (τ.1 0 6).toInt = 3) : (τ.1 0 13).toInt = 0 := by
  obtain ⟨_, h1 | h1 | h1 | h1 | h1 | h1⟩ := hX.2.2.1
  · exact h1.2.2
  · exact h1.2.1
  · exact h1.2.1
  · exact h1.2.2.1
  · exact h1.2.2.1
  · have := h1.2.1
    omega
/-- the class's number of a literal, against the reference's bits, text, letters -/
theorem ab_ewr (p0 : Int32) (σ τ : ST) (hX : LX σ τ) (hT : TWX σ τ) (hk : ¬ (σ.1 2 4).toInt = 1) (hF : FT_ τ p0.toInt) : OK (f_X6_worth p0 σ) (RO σ fun w => ∀ (v t : Int64) (n : Int32), BTS p0.toInt τ v → ((τ.1 0 6).toInt = 3 ∧ t = τ.2.1 0 7 ∧ n = τ.1 0 8 ∨ ¬ (τ.1 0 6).toInt = 3 ∧ t = 0 ∧ n.toInt = 0) → EWR p0.toInt w v t n) := by
  have hK := hX.2.2.1
  obtain ⟨k1, k2, k3, k4⟩ := hK.bw hk
  have l0 := li_0
  have l1 := li_1
  have l2 := li_2
  have l3 := li_3
  have l4 := li_4
  have l5 := li_5
  unfold f_X6_worth f_X6_whole
  refine OK.ieq (fun h1 => ?_) (fun h1 => ?_)
  · have e1 : p0.toInt = 1 := by omega
    rw [e1] at hF ⊢
    have hF := ft_1.mp hF
    have h6 : (τ.1 0 6).toInt = 1 := hF.elim (fun h => h.1) (fun h => h.1)
    refine OK.bndR (a_isKeyword 13 σ τ hK (k := 13) (by omega) (by decide)) (fun u hu => ?_)
    dsimp only
    have ey : kwV 13 = v_yes := rfl
    rw [ey] at hu
    refine OK.ieq (fun hu0 => OK.roret (fun v t n hv ht => ?_)) (fun hu0 => OK.roret (fun v t n hv ht => ?_))
    · unfold EWR
      rw [if_neg (by omega)]
      rcases ht with ht | ht
      · omega
      · refine ⟨?_, ht.2⟩
        rcases hu with hu | hu
        · rcases hv.1 rfl with h | h
          · exact absurd h.1 hu.2
          · exact h.2.symm
        · have := hu.1
          omega
    · unfold EWR
      rw [if_neg (by omega)]
      rcases ht with ht | ht
      · omega
      · refine ⟨?_, ht.2⟩
        rcases hu with hu | hu
        · have := hu.1
          omega
        · rcases hv.1 rfl with h | h
          · exact h.2.symm
          · exact absurd hu.2 h.1
  have wh : p0.toInt = 2 ∨ p0.toInt = 3 → OK ((if (σ.1 2 9) = 0 then (some ((σ.2.1 2 8), σ)) else (some ((-(σ.2.1 2 8)), σ))).bind fun q8 => some (q8.1, q8.2)) (RO σ fun w => ∀ (v t : Int64) (n : Int32), BTS p0.toInt τ v → ((τ.1 0 6).toInt = 3 ∧ t = τ.2.1 0 7 ∧ n = τ.1 0 8 ∨ ¬ (τ.1 0 6).toInt = 3 ∧ t = 0 ∧ n.toInt = 0) → EWR p0.toInt w v t n) := fun h23 => by
    have h62 : (τ.1 0 6).toInt = 2 := by
      rcases h23 with h | h
      · rw [h] at hF
        exact (ft_2.mp hF).1
      · rw [h] at hF
        exact (ft_3.mp hF).1
    obtain ⟨_, g2⟩ := k3 (k1.mp h62)
    have fin : ∀ w : Int64, w = τ.2.1 0 9 → ∀ (v t : Int64) (n : Int32), BTS p0.toInt τ v → ((τ.1 0 6).toInt = 3 ∧ t = τ.2.1 0 7 ∧ n = τ.1 0 8 ∨ ¬ (τ.1 0 6).toInt = 3 ∧ t = 0 ∧ n.toInt = 0) → EWR p0.toInt w v t n := fun w hw v t n hv ht => by
      unfold EWR
      rw [if_neg (by omega)]
      rcases ht with ht | ht
      · omega
      · exact ⟨by rw [hw, hv.2.1 h23], ht.2⟩
    by_cases h9 : σ.1 2 9 = 0
    · rw [if_pos h9]
      refine OK.roret (fin _ ?_)
      rcases g2 with g | g
      · rw [h9] at g
        omega
      · exact g.2.symm
    · rw [if_neg h9]
      refine OK.roret (fin _ ?_)
      rcases g2 with g | g
      · exact g.2.symm
      · exact absurd (Int32.toInt_inj.mp (g.1.trans l0.symm)) h9
  refine OK.ieq (fun h2 => wh (.inl (by omega))) (fun h2 => ?_)
  refine OK.ieq (fun h3 => wh (.inr (by omega))) (fun h3 => ?_)
  refine OK.ieq (fun h4 => ?_) (fun h4 => ?_)
  · have e4 : p0.toInt = 4 := by omega
    rw [e4] at hF ⊢
    have h62 : (τ.1 0 6).toInt = 2 := ft_4.mp hF
    have h44 := k1.mp h62
    obtain ⟨g1, g2⟩ := k3 h44
    obtain ⟨⟨d1, d2⟩, ⟨t1, t2⟩, t3, t4⟩ := hT.2 h44
    have hdec := DEC.bits (σ.2.1 2 8) (σ.1 2 11) σ d1 ⟨t1, t2⟩
    have hneg := hdec.2
    have hpos := hdec.1
    have q1 := FP.Core.ddiv_out (FP.Core.i2d_fin (σ.1 2 11)).notNaN fp10_fin fp10_nz
    have q2 := FP.Core.dadd_out' (FP.Core.l2d_fin (σ.2.1 2 8)) q1
    have hn : ¬ FP.Core.val64 (DEC (σ.2.1 2 8) (σ.1 2 11)) = .nan := by
      rcases dec_fpn (σ.2.1 2 8) (σ.1 2 11) d1 ⟨t1, t2⟩ with ⟨_, e⟩ | ⟨_, c, q, h, _⟩
      · rw [e]
        decide +kernel
      · exact h.nn
    have hn2 : ¬ FP.Core.val64 (FP.dneg (DEC (σ.2.1 2 8) (σ.1 2 11))) = .nan := by
      have e3 : FP.Core.val64 (FP.dneg (DEC (σ.2.1 2 8) (σ.1 2 11))) = FP.Core.negate (FP.Core.val64 (DEC (σ.2.1 2 8) (σ.1 2 11))) := FP.val64_dneg _
      rw [e3]
      intro h
      cases e : FP.Core.val64 (DEC (σ.2.1 2 8) (σ.1 2 11)) with
      | nan => exact hn e
      | inf s => rw [e] at h; cases h
      | fin s c q => rw [e] at h; cases h
    have fin : ∀ w : Int64, (∀ v : Int64, DTL (if (τ.1 0 10).toInt = 0 then FP.l2d (τ.2.1 0 9) else τ.2.2.1 0 11) v → w = v) → ∀ (v t : Int64) (n : Int32), BTS 4 τ v → ((τ.1 0 6).toInt = 3 ∧ t = τ.2.1 0 7 ∧ n = τ.1 0 8 ∨ ¬ (τ.1 0 6).toInt = 3 ∧ t = 0 ∧ n.toInt = 0) → EWR 4 w v t n := fun w hw v t n hv ht => by
      unfold EWR
      rw [if_neg (by omega)]
      rcases ht with ht | ht
      · omega
      · exact ⟨hw v (hv.2.2.1 rfl), ht.2⟩
    have e10 : (σ.1 2 10).toInt = (τ.1 0 10).toInt := by rw [g1]
    have hr : OK (f_X6_realBits σ) (RO σ fun w => ∀ v : Int64, DTL (if (τ.1 0 10).toInt = 0 then FP.l2d (τ.2.1 0 9) else τ.2.2.1 0 11) v → w = v) := by
      unfold f_X6_realBits f_X6_realBits_42
      refine OK.grd (fl_num q1) ?_
      refine OK.grd (fl_num q2) ?_
      have hpos' : f_X10_bitsOfPositive (FP.dadd (FP.l2d (σ.2.1 2 8)) (FP.ddiv (FP.i2d (σ.1 2 11)) 4621819117588971520)) σ = some ((DEC (σ.2.1 2 8) (σ.1 2 11)).toInt64, σ) := hpos
      rw [hpos', sbnd_]
      dsimp only
      -- the reference's double
      have plus : ∀ m0 : (σ.1 2 9).toInt = 0, ∀ v : Int64, DTL (if (τ.1 0 10).toInt = 0 then FP.l2d (τ.2.1 0 9) else τ.2.2.1 0 11) v → (DEC (σ.2.1 2 8) (σ.1 2 11)).toInt64 = v := fun m0 v hv => by
        have e9 : τ.2.1 0 9 = σ.2.1 2 8 := by
          rcases g2 with g | g
          · omega
          · exact g.2
        by_cases hp : (τ.1 0 10).toInt = 0
        · rw [if_pos hp, e9] at hv
          have e0 := t3 (by omega)
          rw [e0, dec_0 _ d1] at hn ⊢
          exact (dtl_num hn).uniq hv
        · rw [if_neg hp] at hv
          rcases t4 (by
            have hb := hX.2.2.1
            have := dot01 hX h62
            omega) with g | g
          · omega
          · rw [g.2] at hv
            exact (dtl_num hn).uniq hv
      have minus : ∀ m1 : ¬ (σ.1 2 9).toInt = 0, ((τ.1 0 10).toInt = 0 → ¬ σ.2.1 2 8 = 0) → ∀ v : Int64, DTL (if (τ.1 0 10).toInt = 0 then FP.l2d (τ.2.1 0 9) else τ.2.2.1 0 11) v → ((DEC (σ.2.1 2 8) (σ.1 2 11)).toInt64 ||| (-9223372036854775808)) = v := fun m1 hz v hv => by
        have e9 : τ.2.1 0 9 = -(σ.2.1 2 8) := by
          rcases g2 with g | g
          · exact g.2
          · omega
        rw [← hneg]
        by_cases hp : (τ.1 0 10).toInt = 0
        · rw [if_pos hp, e9] at hv
          have e0 := t3 (by omega)
          have hz := hz hp
          rw [e0, dec_0 _ d1] at hn2 ⊢
          have hnn : (-(σ.2.1 2 8)).toInt = -(σ.2.1 2 8).toInt := by
            rw [Int64.toInt_neg]
            exact Int.bmod_eq_of_le (by omega) (by omega)
          rw [l2d_neg _ _ hnn (fun h => hz (Int64.toInt_inj.mp (h.trans l64_0.symm)))] at hv
          exact (dtl_num hn2).uniq hv
        · rw [if_neg hp] at hv
          rcases t4 (by
            have := dot01 hX h62
            omega) with g | g
          · rw [g.2] at hv
            exact (dtl_num hn2).uniq hv
          · omega
      refine OK.ieq (fun h9 => OK.roret (plus (by omega))) (fun h9 => ?_)
      have m1 : ¬ (σ.1 2 9).toInt = 0 := by omega
      refine OK.ieq (fun h10 => ?_) (fun h10 => OK.roret (minus m1 (fun h => by omega)))
      refine OK.ite (fun h8 => ?_) (fun h8 => ?_)
      · rw [lg_cmp_eq] at h8
        refine OK.roret (fun v hv => ?_)
        have e9 : τ.2.1 0 9 = 0 := by
          rcases g2 with g | g
          · rw [g.2, h8]
            rfl
          · rw [g.2, h8]
        rw [if_pos (by omega), e9] at hv
        have e0 := t3 (by omega)
        rw [e0, h8, dec_0 _ (by decide)] at hn ⊢
        exact (dtl_num hn).uniq hv
      · rw [lg_cmp_eq] at h8
        exact OK.roret (minus m1 (fun _ => h8))
    exact OK.bndR hr (fun w hw => OK.roret (fin w hw))
  refine OK.ieq (fun h5 => ?_) (fun h5 => ?_)
  · have e5 : p0.toInt = 5 := by omega
    rw [e5] at hF ⊢
    have h63 : (τ.1 0 6).toInt = 3 := ft_5.mp hF
    refine OK.roret (fun v t n hv ht => ?_)
    unfold EWR
    rw [if_pos rfl]
    rcases ht with ht | ht
    · rw [ht.2.1, ht.2.2]
      exact ⟨hv.2.2.2 (by omega), hT.1 (k2.mp h63)⟩
    · exact absurd h63 ht.1
  · refine OK.roret (fun v t n hv ht => ?_)
    unfold EWR
    rw [if_neg (by omega)]
    have h14 : ¬ (1 ≤ p0.toInt ∧ p0.toInt ≤ 4) := by omega
    rcases ht with ht | ht
    · exfalso
      have h07 : ¬ p0.toInt = 5 := by omega
      exact ft_n5 hF h07 hX.q13 ht.1
    · exact ⟨(hv.2.2.2 h14).symm, ht.2⟩
