/-! texts, reals and flags that are read -/
/-- so many letters, both ways -/
def LTR (i : Nat) (x y : Int64) : Prop := ∃ g : Nat → Nat, GL g i ∧ x.toInt = (n5 i g : Int) ∧ y.toInt = (n27 g i : Int)
theorem LTR.zero : LTR 0 0 0 := ⟨fun _ => 0, fun i hi => by omega, rfl, rfl⟩
theorem LTR.wlt {i : Nat} {x y : Int64} {n : Int32} (h : LTR i x y) (hi : i ≤ 12) (hn : n.toInt = i) : WLT x y n := by
  obtain ⟨g, h1, h2, h3⟩ := h
  exact ⟨i, g, hi, h1, h2, h3, hn⟩
theorem ltr_step {i : Nat} {x y : Int64} {c x5 : Int32} (h : LTR i x y) (hi : i < 12) (h5 : x5.toInt = i) (hc : 97 ≤ c.toInt ∧ c.toInt ≤ 122) : LTR (i + 1) (x ||| (((c - 97) + 1).toInt64 <<< ((5 * x5).toInt64 &&& 63))) (27 * y + c.toInt64 - 96) := by
  obtain ⟨g, hg, e1, e2⟩ := h
  have l1 := li_1
  have l97 := li_97
  have a1 := il_subE (x := c) (y := 97) (by omega) (by omega)
  have a2 := il_addE (x := c - 97) (y := 1) (by omega) (by omega)
  have n5e : x5 = Int32.ofNat i := ofNat_i h5 (by omega)
  obtain ⟨v, hv⟩ : ∃ v : Nat, (v : Int) = c.toInt - 96 := ⟨(c.toInt - 96).toNat, by omega⟩
  obtain ⟨f, hf⟩ : ∃ f : Nat → Nat, f = fun j => if j = i then v else g j := ⟨_, rfl⟩
  have f1 : f i = v := by rw [hf]; exact if_pos rfl
  have f2 : ∀ j, j < i → f j = g j := fun j hj => by rw [hf]; exact if_neg (by omega)
  have hF : GL f (i + 1) := fun j hj => by
    by_cases e : j = i
    · rw [e, f1]
      omega
    · rw [f2 j (by omega)]
      exact hg j (by omega)
  have x5e : n5 i f = n5 i g := n5_ext i f g f2
  have y5e : n27 f i = n27 g i := n27_ext f g i f2
  refine ⟨f, hF, ?_, ?_⟩
  · rw [n5_last, x5e, f1, n5e]
    exact or12 (k := i) e1 (by rw [i64, a2, a1]; omega) (by omega) hi (n5_lt i g hg) (sh12 i hi _)
  · show (27 * y + c.toInt64 - 96).toInt = ((27 * n27 f i + f i : Nat) : Int)
    rw [y5e, f1]
    have hl := n27_lt i g hg
    have p1 : (27 : Nat) ^ i ≤ 27 ^ 11 := Nat.pow_le_pow_right (by omega) (by omega)
    have p2 : (27 : Nat) ^ 11 = 5559060566555523 := by decide
    rw [p2] at p1
    have l27 : (27 : Int64).toInt = 27 := by decide
    have l96 : (96 : Int64).toInt = 96 := by decide
    have c1 : (27 * y).toInt = 27 * (n27 g i : Int) := by
      rw [Int64.toInt_mul, l27, e2]
      exact Int.bmod_eq_of_le (by omega) (by omega)
    have c2 : (27 * y + c.toInt64).toInt = 27 * (n27 g i : Int) + c.toInt := by
      rw [Int64.toInt_add, c1, i64]
      exact Int.bmod_eq_of_le (by omega) (by omega)
    rw [Int64.toInt_sub, c2, l96]
    rw [Int.bmod_eq_of_le (by omega) (by omega)]
    omega
theorem ad_let5 {b t : Nat} (hb : BT b t) {σ : ST} (h : ¬ σ.1 b 7 = 0) (n : Nat) (x1 x2 : Int32) (x3 : Int64) (x5 : Int32) : QT (f_X4_takeLetters_5 b t n x1 x2 x3 x5 σ) (fun q => ¬ q.2.1 b 7 = 0) := fun q e => by
  have k : KRA b t σ q.2 := wr_X4_takeLetters_5 (B0 := b) (T0 := t) (s := σ) rfl _ _ _ _ _ _ (KRA.rf hb) q e
  exact k.nz h
theorem ad_let45 {b t : Nat} (hb : BT b t) {σ : ST} (h : ¬ σ.1 b 7 = 0) (n : Nat) (x1 x2 : Int32) (x3 : Int64) (x5 x6 : Int32) : QT (f_X4_takeLetters_45 (f_X4_takeLetters_5 b t n) b t x1 x2 x3 x5 x6 σ) (fun q => ¬ q.2.1 b 7 = 0) := by
  unfold f_X4_takeLetters_45
  exact QT.lt (fun z _ => ad_let5 hb h _ _ _ _ _)
theorem ad_let38 {b t : Nat} (hb : BT b t) (σ : ST) (n : Nat) (x1 x2 : Int32) (x3 : Int64) (x5 x6 : Int32) : QT (f_X4_takeLetters_38 (f_X4_takeLetters_5 b t n) b t x1 x2 x3 x5 x6 σ) (fun q => ¬ q.2.1 b 7 = 0) := by
  unfold f_X4_takeLetters_38
  exact QT.bnd (a_failed hb 12 x1 σ (by decide)) (fun s hs => ad_let45 hb hs _ _ _ _ _ _)
theorem rd_let5 {b t m : Nat} (hb : BT b t) (x1 x2 : Int32) (h2 : 0 ≤ x2.toInt ∧ x2.toInt ≤ 12) : ∀ (n M i : Nat) (x3 : Int64) (x5 : Int32) (σ τ : ST), RPS b m σ τ → x5.toInt = i → LTR i x3 (τ.2.1 0 71) → (i : Int) ≤ x2.toInt → QT (f_X4_takeLetters_5 b t n x1 x2 x3 x5 σ) (fun q => QT (f_X11_readsText_32 M x1 x2 x5 τ) (fun w => RDO b m σ τ q.2 w.2 w.1 (w.2.1 0 72 = τ.1 0 72 ∧ ∃ k : Nat, (k : Int) = x2.toInt ∧ LTR k q.1 (w.2.2.1 0 71)))) := by
  have l0 := li_0
  have l1 := li_1
  have l97 := li_97
  have l122 := li_122
  intro n
  induction n with
  | zero =>
    intro M i x3 x5 σ τ _ _ _ _
    rw [f_X4_takeLetters_5]
    exact QT.none
  | succ n ih =>
    intro M i x3 x5 σ τ h h5 hL hi
    cases M with
    | zero =>
      refine fun q _ => ?_
      rw [f_X11_readsText_32]
      exact QT.none
    | succ M =>
      rw [f_X4_takeLetters_5, f_X11_readsText_32]
      refine QT.ile (fun hle => QT.ret ?_) (fun hlt => ?_)
      · refine QT.ile (fun _ => QT.ret (.inr ⟨rfl, h, ⟨PMA.rf, PMB.rf⟩, rfl, i, by omega, hL⟩)) (fun h => by omega)
      · refine QT.ite (fun _ => ?_) (fun h9 => absurd h.1.1 h9)
        refine QT.sw ?_
        refine QT.ile (fun h => by omega) (fun _ => ?_)
        refine QT.sw ?_
        refine QT.bnd2 (rd_byte hb h) (fun q w hqw => ?_)
        have z97 : (97 : Int64).toInt = 97 := by decide
        have z122 : (122 : Int64).toInt = 122 := by decide
        rcases hqw with ⟨f1, f2⟩ | ⟨⟨e1, e2, e3⟩, hR, hA, hB⟩
        · refine QT.mono (P := fun z => ¬ z.2.1 b 7 = 0) ?_ (fun z hz => ?_)
          · exact QT.ite (fun _ => ad_let38 hb _ _ _ _ _ _ _) (fun _ => QT.ite (fun _ => ad_let45 hb f1 _ _ _ _ _ _) (fun _ => ad_let38 hb _ _ _ _ _ _ _))
          · exact QT.ile (fun h => by omega) (fun _ => QT.ret (.inl ⟨hz, rfl⟩))
        · have bad : ¬ (97 ≤ q.1.toInt ∧ q.1.toInt ≤ 122) → QT (f_X4_takeLetters_38 (f_X4_takeLetters_5 b t n) b t x1 x2 x3 x5 q.1 q.2) (fun z => QT (if 0 ≤ w.1 then ((f_X11_isLetter w.1 w.2).bind fun q3 => if q3.1 = 0 then ((f_X11_fails 12 x1 q3.2).bind fun q5 => if q5.1 = 0 ∨ q5.1 = 1 then some (q5.1, q5.2) else none) else (f_X11_readsText_32 M x1 x2 (x5 + 1) (stL q3.2 0 71 (((27 * (q3.2.2.1 0 71)) + (w.1.toInt64)) - 96)))) else (some (0, w.2))) (fun v => RDO b m σ τ z.2 v.2 v.1 (v.2.1 0 72 = τ.1 0 72 ∧ ∃ k : Nat, (k : Int) = x2.toInt ∧ LTR k z.1 (v.2.2.1 0 71)))) := fun hn => by
            refine (ad_let38 hb _ _ _ _ _ _ _).mono (fun z hz => ?_)
            refine QT.ile (fun _ => ?_) (fun _ => QT.ret (.inl ⟨hz, rfl⟩))
            unfold f_X11_isLetter
            refine QT.bnd (Q := fun q3 : Int32 × ST => q3.1.toInt = 0) ?_ (fun q3 h3 => ?_)
            · refine QT.bndR (b_within w.1.toInt64 97 122 w.2) (fun v hv => QT.grd (fun _ => QT.ret ?_))
              rw [z97, z122, i64, e1] at hv
              rcases hv with hv | hv
              · exact hv.1
              · exact absurd hv.2 hn
            · refine QT.ieq (fun _ => ?_) (fun h => by omega)
              exact QT.bnd (q_fails 12 x1 q3.2) (fun v hv => QT.grd (fun _ => QT.ret (.inl ⟨hz, hv⟩)))
          refine QT.ilt (fun h => bad (by omega)) (fun hge => ?_)
          refine QT.ile (fun hle => ?_) (fun h => bad (by omega))
          refine QT.sw ?_
          refine QT.ile (fun _ => ?_) (fun h => by rw [e1] at h; omega)
          unfold f_X11_isLetter
          refine QT.bnd (Q := fun q3 : Int32 × ST => q3.1.toInt = 1 ∧ q3.2 = w.2) ?_ (fun q3 h3 => ?_)
          · refine QT.bndR (b_within w.1.toInt64 97 122 w.2) (fun v hv => QT.grd (fun _ => QT.ret ⟨?_, rfl⟩))
            rw [z97, z122, i64, e1] at hv
            rcases hv with hv | hv
            · exact absurd ⟨by omega, by omega⟩ hv.2
            · exact hv.1
          · refine QT.ieq (fun h => by omega) (fun _ => ?_)
            refine QT.sw ?_
            rw [h3.2, e1]
            unfold f_X4_takeLetters_45
            refine QT.lt (fun z ez => ?_)
            subst ez
            have e5 := il_addE (x := x5) (y := 1) (by omega) (by omega)
            have e71 : w.2.2.1 0 71 = τ.2.1 0 71 := by rw [hB.2.2]
            have hs := ltr_step (x5 := x5) (c := q.1) hL (by omega) h5 ⟨by omega, by omega⟩
            refine (ih M (i + 1) _ (x5 + 1) q.2 _ hR.l (by omega) ?_ (by omega)).mono2 (fun z v hz => ?_)
            · rw [stL_at, e71]
              exact hs
            · rcases hz with hz | ⟨z1, z2, ⟨z3, z4⟩, z5, z6⟩
              · exact .inl hz
              · exact .inr ⟨z1, z2, ⟨hA.trans z3, hB.wk.l.trans z4⟩, z5.trans (hB.2.1 72 (by omega)), z6⟩
/-- a text: how many letters, and they -/
theorem rd_text {b t m : Nat} (hb : BT b t) (p0 : Int32) (σ τ : ST) (h : RPS b m σ τ) : QT ((f_X4_takeCount b t p0 12 σ).bind fun q24 => (f_X4_takeLetters b t p0 q24.1 q24.2).bind fun q26 => some ((q24.1, q26.1), q26.2)) (fun q => QT (f_X11_readsText p0 τ) (fun w => RDO b m σ τ q.2 w.2 w.1 (WLT q.1.2 (w.2.2.1 0 71) q.1.1 ∧ w.2.1 0 72 = q.1.1))) := by
  have l0 := li_0
  have z12 : (12 : Int32).toInt64 = 12 := by decide
  have z12' : (12 : Int64).toInt = 12 := by decide
  unfold f_X11_readsText
  refine QT.bnd2 (rd_count hb p0 12 12 z12 σ τ h) (fun q w hqw => ?_)
  rcases hqw with ⟨f1, f2⟩ | ⟨e0, hR, ⟨hA, hB⟩, e1, e2, e3⟩
  · unfold f_X4_takeLetters
    refine QT.bnd (ad_let5 hb f1 _ _ _ _ _) (fun z hz => QT.ret ?_)
    exact QT.ite (fun _ => QT.ret (.inl ⟨hz, rfl⟩)) (fun h => absurd f2 h)
  · have ei : q.1.toInt = (w.2.2.1 0 70).toInt := by
      rw [e1]
      show (w.2.2.1 0 70).toInt32.toInt = _
      rw [Int64.toInt_toInt32]
      exact Int.bmod_eq_of_le (by omega) (by omega)
    refine QT.sw ?_
    refine QT.ite (fun h => absurd (h.symm.trans e0) (by decide)) (fun _ => ?_)
    refine QT.sw ?_
    rw [← e1]
    have hst : ∀ z : Int32 × ST, z = z := fun _ => rfl
    unfold f_X4_takeLetters
    obtain ⟨τ1, hτ1⟩ : ∃ τ1, τ1 = stI (stL w.2 0 71 0) 0 72 q.1 := ⟨_, rfl⟩
    rw [← hτ1]
    have hR1 : RPS b m q.2 τ1 := by rw [hτ1]; exact hR.l.i72
    have e71 : τ1.2.1 0 71 = 0 := by
      rw [hτ1]
      exact stL_at
    have e72 : τ1.1 0 72 = q.1 := by rw [hτ1, stI_at, upA rfl]
    have hB1 : PMB τ τ1 := by rw [hτ1]; exact hB.l.i72
    refine QT.sw ?_
    refine QT.mono (P := fun w' => QT (f_X4_takeLetters_5 b t FU p0 q.1 0 0 q.2) (fun z => RDO b m q.2 τ1 z.2 w'.2 w'.1 (w'.2.1 0 72 = τ1.1 0 72 ∧ ∃ k : Nat, (k : Int) = q.1.toInt ∧ LTR k z.1 (w'.2.2.1 0 71)))) (QT.sw (rd_let5 hb p0 q.1 ⟨by omega, by omega⟩ FU FU 0 0 0 q.2 τ1 hR1 l0 (by rw [e71]; exact LTR.zero) (by omega))) (fun w' hw' => ?_)
    refine QT.bnd hw' (fun z hz => QT.ret ?_)
    rcases hz with hz | ⟨z1, z2, ⟨z3, z4⟩, z5, k, z6, z7⟩
    · exact .inl hz
    · exact .inr ⟨z1, z2, ⟨hA.trans z3, hB1.trans z4⟩, z7.wlt (by omega) (show q.1.toInt = (k : Int) by omega), z5.trans e72⟩
/-! reals -/
theorem nan_abs (x : Int64) : (x &&& 9223372036854775807).toInt = ((x.toBitVec.toNat % 2 ^ 63 : Nat) : Int) := by
  have h1 : (x &&& 9223372036854775807).toBitVec.toNat = x.toBitVec.toNat % 2 ^ 63 := by
    show (x.toBitVec &&& (9223372036854775807 : Int64).toBitVec).toNat = _
    rw [BitVec.toNat_and]
    exact Nat.and_two_pow_sub_one_eq_mod x.toBitVec.toNat 63
  have h2 := Nat.mod_lt x.toBitVec.toNat (show 0 < 2 ^ 63 by decide)
  have h3 : (2 : Nat) ^ 63 = 9223372036854775808 := by decide
  show (x &&& 9223372036854775807).toBitVec.toInt = _
  rw [BitVec.toInt_eq_toNat_of_lt (by rw [h1]; omega), h1]
theorem dtl_nan {x : UInt64} (h : FP.Core.dIsNaN x = true) : DTL x 9221120237041090560 := by
  intro σ
  unfold f_Jxe99ae_doubleToLongBits_ccdee f_Jxe99ae_isNaN_b9ae7
  have e : FP.dcmp x x = none := (FP.Core.dcmp_none x x).mpr (Or.inl ((FP.Core.dIsNaN_iff x).mp h))
  rw [e]
  rfl
theorem dtl_real (x : Int64) {σ : ST} {b t : Nat} : QT (if (lg_cmp (x &&& 9223372036854775807) 9218868437227405312) ≤ 0 then (f_X4_takeReal_44 b t x 0 σ) else (f_X4_takeReal_44 b t x 1 σ)) (fun q => q.2 = σ ∧ DTL x.toUInt64 q.1) := by
  have l0 := li_0
  have l1 := li_1
  have zc : (9218868437227405312 : Int64).toInt = 9218868437227405312 := by decide
  have ht : x.toUInt64.toNat = x.toBitVec.toNat := rfl
  have hb := FP.Core.isNaN_bits x.toUInt64
  rw [ht] at hb
  have ha := nan_abs x
  have hc : (9218868437227405312 : Nat) = 0x7ff0000000000000 := by decide
  unfold f_X4_takeReal_44
  refine QT.ile (fun hle => ?_) (fun hgt => ?_)
  · refine QT.ieq (fun _ => QT.ret ⟨rfl, ?_⟩) (fun h => absurd rfl h)
    have g := lgc_le hle
    rw [ha, zc] at g
    refine dtl_num (fun h => ?_)
    have := hb.mp ((FP.Core.dIsNaN_iff _).mpr h)
    omega
  · refine QT.ieq (fun h => by omega) (fun _ => QT.ret ⟨rfl, ?_⟩)
    have g : (9218868437227405312 : Int) < (x &&& 9223372036854775807).toInt := by
      have k := lgc_ge (x := x &&& 9223372036854775807) (y := 9218868437227405312) (by omega)
      rw [zc] at k
      by_cases e : (x &&& 9223372036854775807).toInt = 9218868437227405312
      · have e' : x &&& 9223372036854775807 = 9218868437227405312 := Int64.toInt_inj.mp (by rw [e, zc])
        have e2 : lg_cmp (x &&& 9223372036854775807) 9218868437227405312 = 0 := by
          rw [lg_cmp_eq]
          exact e'
        rw [e2] at hgt
        omega
      · omega
    rw [ha] at g
    refine dtl_nan (hb.mpr ?_)
    omega
theorem ad_real4 {b t : Nat} (hb : BT b t) {σ : ST} (h : ¬ σ.1 b 7 = 0) (n : Nat) (x1 : Int64) (x3 : Int32) : QT (f_X4_takeReal_4 b t n x1 x3 σ) (fun q => ¬ q.2.1 b 7 = 0) := fun q e => by
  have k : KRA b t σ q.2 := wr_X4_takeReal_4 (B0 := b) (T0 := t) (s := σ) rfl _ _ _ _ (KRA.rf hb) q e
  exact k.nz h
theorem rd_real4 {b t m : Nat} (hb : BT b t) : ∀ (n M : Nat) (x1 : Int64) (x3 : Int32) (σ τ : ST), RPS b m σ τ → x1 = τ.2.1 0 70 → QT (f_X4_takeReal_4 b t n x1 x3 σ) (fun q => QT (f_X11_readsReal_7 M x3 τ) (fun w => RDO b m σ τ q.2 w.2 w.1 (DTL (w.2.2.1 0 70).toUInt64 q.1))) := by
  have l0 := li_0
  intro n
  induction n with
  | zero =>
    intro M x1 x3 σ τ _ _
    rw [f_X4_takeReal_4]
    exact QT.none
  | succ n ih =>
    intro M x1 x3 σ τ h h1
    cases M with
    | zero =>
      refine fun q _ => ?_
      rw [f_X11_readsReal_7]
      exact QT.none
    | succ M =>
      rw [f_X4_takeReal_4, f_X11_readsReal_7]
      refine QT.ile (fun hle => ?_) (fun hlt => ?_)
      · refine (dtl_real x1).mono (fun q hq => ?_)
        refine QT.ile (fun _ => QT.ret (.inr ⟨rfl, ?_, ⟨?_, PMB.rf⟩, ?_⟩)) (fun h => by omega)
        · rw [hq.1]
          exact h
        · rw [hq.1]
          exact PMA.rf
        · dsimp only
          rw [← h1]
          exact hq.2
      · refine QT.sw ?_
        refine QT.ile (fun h => by omega) (fun _ => ?_)
        refine QT.sw ?_
        refine QT.bnd2 (rd_byte hb h) (fun q w hqw => ?_)
        rcases hqw with ⟨f1, f2⟩ | ⟨⟨e1, e2, e3⟩, hR, hA, hB⟩
        · refine (ad_real4 hb f1 _ _ _).mono (fun z hz => ?_)
          exact QT.ile (fun h => by omega) (fun _ => QT.ret (.inl ⟨hz, rfl⟩))
        · refine QT.sw ?_
          refine QT.ile (fun _ => ?_) (fun h => by rw [e1] at h; omega)
          refine QT.sw ?_
          refine (ih M _ (x3 + 1) q.2 _ hR.l ?_).mono2 (fun z v hz => hz.to hA hB.wk.l)
          rw [stL_at, e1, h1, hB.2.2]
theorem rd_real {b t m : Nat} (hb : BT b t) (σ τ : ST) (h : RPS b m σ τ) : QT (f_X4_takeReal b t σ) (fun q => QT (f_X11_readsReal τ) (fun w => RDO b m σ τ q.2 w.2 w.1 (DTL (w.2.2.1 0 70).toUInt64 q.1))) := by
  unfold f_X4_takeReal f_X11_readsReal
  exact (rd_real4 hb FU FU 0 0 σ (stL τ 0 70 0) h.l stL_at.symm).mono2 (fun z v hz => hz.to PMA.rf PMB.rf.l)
/-- a whole number's bits, as a real -/
theorem whole_bits (v : Int64) (σ : ST) : QT (f_X10_bitsOfWhole v σ) (fun q => q.2 = σ ∧ DTL (FP.l2d v) q.1) := by
  have z0 : (0 : Int64).toInt = 0 := by decide
  have l0 := li_0
  unfold f_X10_bitsOfWhole
  refine QT.ilt (fun hlt => ?_) (fun hge => ?_)
  · have hv : v.toInt < 0 := by
      by_cases h : v.toInt < 0
      · exact h
      · have := Int32.le_iff_toInt_le.mp ((lg_cmp_ge v 0).mpr (Int64.le_iff_toInt_le.mpr (by omega)))
        omega
    obtain ⟨c, q, e1, e2, e3, e4⟩ := l2d_fin v (by omega)
    rw [decide_eq_true hv] at e1
    have nn : ¬ FP.Core.val64 (FP.l2d v) = .nan := by
      rw [e1]
      exact fun h => by cases h
    have y1 : FP.Core.val64 (FP.dneg (FP.l2d v)) = .fin false c q := by
      rw [FP.val64_dneg, e1]
      rfl
    have F : FPN (FP.dneg (FP.l2d v)) c q := ⟨y1, e2, by omega, by omega⟩
    have c1 : FP.dneg (FP.l2d v) = FP.Core.dneg (FP.l2d v) := FP.Core.val64_inj F.nn (by rw [y1, FP.Core.val64_dneg, e1]; rfl)
    have ey : FP.dsub FP.dconst0 (FP.l2d v) = FP.dneg (FP.l2d v) := by
      show FP.Core.dsub FP.Core.dconst0 (FP.l2d v) = _
      rw [FP.Core.dsub_eq, ← c1, FP.Core.dadd_comm]
      exact FP.Core.dadd_zero F.nn F.nz
    rw [ey]
    refine QT.grd (fun _ => ?_)
    refine QT.bndR (fp_pos _ σ F ⟨by omega, by omega⟩) (fun w hw => QT.ret ⟨rfl, ?_⟩)
    dsimp only
    have dd : FP.dneg (FP.dneg (FP.l2d v)) = FP.l2d v := (FP.Core.val64_inj nn (by rw [FP.val64_dneg, y1, e1]; rfl)).symm
    rw [hw, ← F.neg_bits, dd]
    exact dtl_num nn
  · have hv := lgc_ge hge
    rw [z0] at hv
    by_cases h0 : v.toInt = 0
    · have e : v = 0 := Int64.toInt_inj.mp (by rw [h0]; rfl)
      rw [e, l2d_0, fp_zero, sbnd]
      dsimp only
      have n0 : ¬ FP.Core.val64 0 = .nan := by decide +kernel
      exact QT.ret ⟨rfl, dtl_num n0⟩
    · obtain ⟨c, q, F, q1, q2⟩ := l2d_pos v (by omega)
      refine QT.bndR (fp_pos _ σ F ⟨by omega, by omega⟩) (fun w hw => QT.ret ⟨rfl, ?_⟩)
      dsimp only
      rw [hw]
      exact dtl_num F.nn
