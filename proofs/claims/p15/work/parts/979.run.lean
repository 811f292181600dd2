/-! a run, both sides -/
theorem ab_run {b t : Nat} {σ τ : ST} (hb : BT b t) (hZ : MZ τ σ) (hX : EHX σ) (hM : MSG σ τ) (hcap : 400 ≤ (σ.1 t 0).toInt) (p0 p1 : Int32) {m q : Nat} (h0 : p0.toInt = m) (hm : m < 4) (hw : ¬ (σ.1 40 m).toInt = -1) (h1 : p1.toInt = q) (hq : (q : Int) < (τ.1 0 32).toInt) : QT (f_X4_run b t p0 p1 σ) (fun qa => QT (f_X11_readsAll p0 p1 τ) (fun qb => RDN b t q σ τ qa qb)) := by
  have l0 := li_0
  have lm := li_m1
  have l6 := li_6
  have l400 := li_400
  have hb' := hb
  unfold BT at hb'
  obtain ⟨hm1, hm2⟩ := hM m hm
  have hMP := hZ.2.2 m hm
  obtain ⟨p, ep⟩ : ∃ p : Nat, (σ.1 40 m).toInt = p := ⟨_, (Int.toNat_of_nonneg (by omega)).symm⟩
  have nm : p0.toNatClampNeg = m := nC h0
  have hIB := hZ.2.1.2.2
  have hT5 := hZ.2.1.1
  have b32 := hIB.1.1
  unfold bI at b32
  have hp : (p : Int) < (τ.1 0 32).toInt := by omega
  obtain ⟨s39, ⟨z0, z4⟩, sby⟩ := hm2 (by rw [← hm1]; exact hw)
  unfold f_X4_run
  refine QT.bnd (fun q e => pt_planOf p0 σ (by omega) q e) (fun q1 hq1 => ?_)
  rw [nm] at hq1
  rw [hq1]
  dsimp only
  refine QT.grd (fun _ => ?_)
  unfold f_X7_clear
  rw [sbnd]
  refine QT.bnd (q_sizeOfM p0 _ (by omega)) (fun q6 hq6 => ?_)
  rw [nm] at hq6
  rw [hq6]
  dsimp only
  have rR : (stR σ b t).2.2.2 b = t := by
    show (bif Nat.beq b b then t else σ.2.2.2 b) = t
    rw [Nat.beq_refl]
    rfl
  have rR2 : ∀ c, c ≠ b → (stR σ b t).2.2.2 c = σ.2.2.2 c := fun c hc => by
    show (bif Nat.beq c b then t else σ.2.2.2 c) = _
    have e : Nat.beq c b = false := by
      cases h : Nat.beq c b with
      | false => rfl
      | true => exact absurd (Nat.eq_of_beq_eq_true h) hc
    rw [e]
    rfl
  have e39 : (stI (stI (stI (stR σ b t) t 1 0) b 4 p0) b 5 0).1 39 m = σ.1 39 m := by
    rw [stI_ne (by omega), stI_ne (by omega), stI_ne (by omega)]
    rfl
  rw [e39]
  have y0 : ∀ c, c ≠ b → c ≠ t → (stI (stI (stI (stI (stI (stI (stR σ b t) t 1 0) b 4 p0) b 5 0) b 6 (σ.1 39 m)) b 7 0) b 10 0).1 c = σ.1 c := fun c h1 h2 => by
    rw [stI_ne h1, stI_ne h1, stI_ne h1, stI_ne h1, stI_ne h1, stI_ne h2]
    rfl
  have yb : (stI (stI (stI (stI (stI (stI (stR σ b t) t 1 0) b 4 p0) b 5 0) b 6 (σ.1 39 m)) b 7 0) b 10 0).1 b = upd (upd (upd (upd (upd (σ.1 b) 4 p0) 5 0) 6 (σ.1 39 m)) 7 0) 10 0 := by
    rw [stI_at, stI_at, stI_at, stI_at, stI_at, stI_ne (by omega)]
    rfl
  have yt : (stI (stI (stI (stI (stI (stI (stR σ b t) t 1 0) b 4 p0) b 5 0) b 6 (σ.1 39 m)) b 7 0) b 10 0).1 t = upd (σ.1 t) 1 0 := by
    rw [stI_ne (by omega), stI_ne (by omega), stI_ne (by omega), stI_ne (by omega), stI_ne (by omega), stI_at]
    rfl
  have yL : (stI (stI (stI (stI (stI (stI (stR σ b t) t 1 0) b 4 p0) b 5 0) b 6 (σ.1 39 m)) b 7 0) b 10 0).2.1 = σ.2.1 := rfl
  have yD : (stI (stI (stI (stI (stI (stI (stR σ b t) t 1 0) b 4 p0) b 5 0) b 6 (σ.1 39 m)) b 7 0) b 10 0).2.2.1 = σ.2.2.1 := rfl
  have yR : (stI (stI (stI (stI (stI (stI (stR σ b t) t 1 0) b 4 p0) b 5 0) b 6 (σ.1 39 m)) b 7 0) b 10 0).2.2.2 = (stR σ b t).2.2.2 := rfl
  generalize stI (stI (stI (stI (stI (stI (stR σ b t) t 1 0) b 4 p0) b 5 0) b 6 (σ.1 39 m)) b 7 0) b 10 0 = y at y0 yb yt yL yD yR ⊢
  have kN0 : KRN b t σ y := ⟨fun c a d => y0 c (by omega) (by omega), fun i hi => by rw [yt, upN hi], fun c _ _ _ => by rw [yL], yD, fun c hc => by rw [yR]; exact rR2 c hc⟩
  have kTA : KTA σ y := fun c c1 c2 => ⟨y0 c (by omega) (by omega), by rw [yL]⟩
  have hZy : MZ τ y := hZ.to kTA (fun c hc => y0 c (by
    simp only [List.mem_cons, List.not_mem_nil, or_false] at hc
    omega) (by
    simp only [List.mem_cons, List.not_mem_nil, or_false] at hc
    omega)) ⟨by rw [yL], by rw [yL]⟩
  refine QT.bnd (fun s e => at_turnTo hZy ep h1 hp hq s e) (fun S hs => ?_)
  obtain ⟨kn, hZs, hG⟩ := hs
  have kNS : KRN b t σ S := by
    obtain ⟨k1, k2, k3⟩ := kn
    refine ⟨fun c a d => by rw [k1]; exact kN0.1 c a d, fun i hi => by rw [k1]; exact kN0.2.1 i hi, fun c a d e => (k3 c a d).trans (kN0.2.2.1 c a d e), by rw [k2]; exact kN0.2.2.2.1, fun c hc => by rw [k2]; exact kN0.2.2.2.2 c hc⟩
  have S1 : S.1 = y.1 := kn.1
  have SR : S.2.2.2 b = t := by rw [kn.2.1, yR]; exact rR
  have kTS : KTA σ S := kTA.trans kn.kta
  unfold f_X11_readsAll
  refine QT.sw ?_
  refine QT.grd (fun _ => ?_)
  rw [nm, ← hm1]
  refine QT.bnd (QT.ok (bx_laysPairs _ p1 τ hIB.1 hIB.2.1 ⟨by omega, by omega⟩ ⟨by omega, by omega⟩)) (fun u hu => ?_)
  obtain ⟨uc, uPP, u53, u54⟩ := hu
  have hG2 : GFX u (RBX (S.2.1 41 4)) := (hG τ hZ.y0).tr (stt_ch uc u53 u54) (by decide) (by decide) (by decide)
  have hRE : ∀ k, k < 36 → (u.1 35 k = 0 ↔ lbt (S.2.1 41 4) k = false) := fun k hk => (uPP.2.2.uniq hG2 k hk).trans RBX_iff
  have kM0 : KRM τ u := ⟨fun c c0 _ _ _ _ c35 _ _ => uc.1 c c0 (by simp only [List.mem_cons, List.not_mem_nil, or_false]; exact c35), fun i hi => uc.2.1 i (fun h => hi (by
    simp only [List.mem_cons, List.not_mem_nil, or_false] at h ⊢
    omega))⟩
  have e35 : (stI u 0 66 0).1 35 (0 : Int32).toNatClampNeg = u.1 35 0 := rfl
  rw [e35]
  unfold f_X0_rootsFit
  rw [a_bitOf 0 0 S (a := 0) (b := 0) l0 l0 (by omega) (by omega)]
  have e00 : 6 * (0 % 6) + 0 % 6 = 0 := rfl
  rw [e00]
  by_cases hb0 : lbt (S.2.1 41 4) 0 = false
  · -- the roots do not match
    refine QT.ite (fun _ => QT.ret ?_) (fun h => absurd ((hRE 0 (by omega)).mpr hb0) h)
    rw [sbnd]
    dsimp only
    rw [if_pos ((a_has (by omega)).mpr hb0), sbnd]
    dsimp only
    refine QT.ite (fun _ => QT.ret ?_) (fun h => absurd rfl h)
    refine ⟨⟨kNS, ⟨fun c c0 c2 c3 c20 c23 c35 c36 c41 => (stI_ne c0).trans (kM0.1 c c0 c2 c3 c20 c23 c35 c36 c41), fun i hi => ?_⟩⟩, .inl ⟨rfl, .inl (show (-2 : Int32).toInt = -2 by decide), by rw [S1, yt, upA rfl]; exact l0⟩⟩
    have i66 : i ≠ 66 := fun h => hi (by rw [h]; decide)
    show (stI u 0 66 0).1 0 i = τ.1 0 i
    rw [stI_at, upN i66]
    exact kM0.2 i hi
  · refine QT.ite (fun h => absurd ((hRE 0 (by omega)).mp h) hb0) (fun h35 => ?_)
    refine QT.lt (fun z4 hz4 => ?_)
    have n799 : (799 : Int32).toNatClampNeg = 799 := by decide
    unfold f_X11_rootType
    rw [sbnd, n799]
    dsimp only
    have c4 : CH [] [46, 57, 63, 64, 65, 66] u (stI (stI z4 0 57 0) 0 46 0) := by
      rw [hz4]
      exact (((((CH.rf.o (by decide)).o (by decide)).o (by decide)).o (by decide)).o (by decide)).o (by decide)
    have g33 : (stI (stI (stI u 0 66 0) 0 63 (400 * p0)) 0 64 0).1 33 m = τ.1 33 m := uc.1 33 (by decide) (by decide) ▸ rfl
    have zz : (stI (stI z4 0 57 0) 0 46 0).1 0 = upd (upd (upd (upd (upd (upd (u.1 0) 66 0) 63 (400 * p0)) 64 0) 65 (τ.1 33 m)) 57 0) 46 0 := by
      rw [stI_at, stI_at, hz4, g33, stI_at, stI_at, stI_at, stI_at]
    have zL : (stI (stI z4 0 57 0) 0 46 0).2 = u.2 := by rw [hz4]; rfl
    have zc : ∀ c, c ≠ 0 → (stI (stI z4 0 57 0) 0 46 0).1 c = u.1 c := fun c hc => by rw [stI_ne hc, stI_ne hc, hz4, stI_ne hc, stI_ne hc, stI_ne hc, stI_ne hc]
    clear hz4
    generalize stI (stI z4 0 57 0) 0 46 0 = z at c4 zz zL zc ⊢
    have zPP := (uPP.ch c4 (by decide)).root
    have T2 : (stI (stI z 2 799 7) 3 799 0).1 2 799 = 7 := by rw [stI_ne (by omega), stI_at, upA rfl]
    have T3 : (stI (stI z 2 799 7) 3 799 0).1 3 799 = 0 := by rw [stI_at, upA rfl]
    have Tc : ∀ c, c ≠ 2 → c ≠ 3 → (stI (stI z 2 799 7) 3 799 0).1 c = z.1 c := fun c c2 c3 => by rw [stI_ne c3, stI_ne c2]
    have TL : (stI (stI z 2 799 7) 3 799 0).2 = z.2 := rfl
    have kTB : KTB τ (stI (stI z 2 799 7) 3 799 0) := by
      have k1 : KTB τ u := by
        refine ⟨fun c hc => uc.1 c (fun e => by rw [e] at hc; revert hc; decide) (fun h => ?_), fun i _ => ⟨by rw [uc.1 2 (by decide) (by decide)], by rw [uc.1 3 (by decide) (by decide)]⟩, fun c hc => ?_⟩
        · simp only [List.mem_cons, List.not_mem_nil, or_false] at h
          rw [h] at hc
          revert hc
          decide
        · simp only [List.mem_cons, List.not_mem_nil, or_false] at hc
          obtain ⟨_, _, c9, c12, c14, c17, c18⟩ := uc
          rcases hc with h | h | h | h | h
          · rw [h, c9]
          · rw [h, c12]
          · rw [h, c14]
          · rw [h, c17]
          · rw [h, c18]
      have k2 : KTB τ z := ⟨fun c hc => (zc c (fun e => by rw [e] at hc; revert hc; decide)).trans (k1.1 c hc), fun i hi => by rw [zc 2 (by omega), zc 3 (by omega)]; exact k1.2.1 i hi, fun c hc => by rw [zL]; exact k1.2.2 c hc⟩
      exact k2.t
    generalize hT : stI (stI z 2 799 7) 3 799 0 = T at zPP T2 T3 Tc TL kTB ⊢
    have T0 : T.1 0 = z.1 0 := Tc 0 (by omega) (by omega)
    have T35 : T.1 35 = u.1 35 := (Tc 35 (by omega) (by omega)).trans (zc 35 (by omega))
    have kMT : KRM τ T := by
      refine ⟨fun c c0 c2 c3 c20 c23 c35 c36 c41 => (Tc c c2 c3).trans ((zc c c0).trans (kM0.1 c c0 c2 c3 c20 c23 c35 c36 c41)), fun i hi => ?_⟩
      have hi2 := hi
      simp only [List.mem_cons, List.not_mem_nil, or_false, not_or] at hi2
      rw [T0, zz, upN (by omega), upN (by omega), upN (by omega), upN (by omega), upN (by omega), upN (by omega)]
      exact kM0.2 i hi
    refine QT.sw ?_
    rw [sbnd]
    dsimp only
    rw [if_neg (fun h9 => hb0 ((a_has (by omega)).mp h9)), sbnd]
    dsimp only
    refine QT.ite (fun h => absurd h one_ne) (fun _ => ?_)
    have root : ∀ (v : Int32) (k : Nat) (s : ST), v.toInt = k → k < 6 → f_X5_rootType 4 v s = some (s.1 6 k, s) := fun v k s hv hk => by
      unfold f_X5_rootType
      rw [if_neg (fun h => by have := Int32.lt_iff_toInt_lt.mp h; omega), if_neg (fun h => by have := Int32.le_iff_toInt_le.mp h; omega), if_pos (by omega), show v.toNatClampNeg = k from nC hv]
    rw [root _ p S ep (by omega), sbnd]
    dsimp only
    rw [root p1 q S h1 (by omega), sbnd]
    dsimp only
    have hPp : PHB 4 p S T := (hT5 p hp).keep (by omega) kTS kTB.kr
    have hPq : PHB 4 q S T := (hT5 q hq).keep (by omega) kTS kTB.kr
    have hRST : RST p q S T := by
      refine ⟨⟨⟨by omega, by omega⟩, ⟨?_, ?_⟩, ⟨hPp, hPq⟩, zPP.1⟩, fun k hk => by rw [T35]; exact hRE k hk, zPP⟩
      · rw [T0, zz, upN (by omega), upN (by omega), upN (by omega), upN (by omega), upN (by omega), upN (by omega), u53]
        exact ep
      · rw [T0, zz, upN (by omega), upN (by omega), upN (by omega), upN (by omega), upN (by omega), upN (by omega), u54]
        exact h1
    have hRSS : RSS b t S := ⟨SR, by rw [S1, yt, upN (by omega)]; exact hcap, hPp.cnt.2.2⟩
    have hXS : EHX S := EHB.at hX kTS
    have e400 := mlE (k := 400) (y := p0) 400 l400 (by omega) (by omega)
    have e38 : S.1 38 = σ.1 38 := by rw [S1]; exact y0 38 (by omega) (by omega)
    have e34 : T.1 34 = τ.1 34 := (Tc 34 (by omega) (by omega)).trans ((zc 34 (by omega)).trans (uc.1 34 (by decide) (by decide)))
    have hC : RCX b t m S T S T 0 := by
      refine ⟨⟨KRA.rf hb, KRB.rf⟩, ?_, ?_, ?_, by omega⟩
      · unfold RPS
        rw [S1, yb, T0, zz]
        have a5 : upd (upd (upd (upd (upd (σ.1 b) 4 p0) 5 0) 6 (σ.1 39 m)) 7 0) 10 0 5 = 0 := by rw [upN (by omega), upN (by omega), upN (by omega), upA rfl]
        have a6 : upd (upd (upd (upd (upd (σ.1 b) 4 p0) 5 0) 6 (σ.1 39 m)) 7 0) 10 0 6 = σ.1 39 m := by rw [upN (by omega), upN (by omega), upA rfl]
        have a7 : upd (upd (upd (upd (upd (σ.1 b) 4 p0) 5 0) 6 (σ.1 39 m)) 7 0) 10 0 7 = 0 := by rw [upN (by omega), upA rfl]
        have a4 : upd (upd (upd (upd (upd (σ.1 b) 4 p0) 5 0) 6 (σ.1 39 m)) 7 0) 10 0 4 = p0 := by rw [upN (by omega), upN (by omega), upN (by omega), upN (by omega), upA rfl]
        have b64 : upd (upd (upd (upd (upd (upd (u.1 0) 66 0) 63 (400 * p0)) 64 0) 65 (τ.1 33 m)) 57 0) 46 0 64 = 0 := by rw [upN (by omega), upN (by omega), upN (by omega), upA rfl]
        have b65 : upd (upd (upd (upd (upd (upd (u.1 0) 66 0) 63 (400 * p0)) 64 0) 65 (τ.1 33 m)) 57 0) 46 0 65 = τ.1 33 m := by rw [upN (by omega), upN (by omega), upA rfl]
        have b63 : upd (upd (upd (upd (upd (upd (u.1 0) 66 0) 63 (400 * p0)) 64 0) 65 (τ.1 33 m)) 57 0) 46 0 63 = 400 * p0 := by rw [upN (by omega), upN (by omega), upN (by omega), upN (by omega), upA rfl]
        rw [a5, a6, a7, a4, b64, b65, b63, ← S1, e38, e34]
        exact ⟨⟨rfl, h0, hm⟩, ⟨rfl, s39⟩, ⟨by omega, by omega, by omega, by omega⟩, sby⟩
      · rw [S1, yt, upA rfl]
        exact l0
      · rw [T0, zz, upA rfl]
        exact l0
    have hT35 : ¬ T.1 35 0 = 0 := by rw [T35]; exact h35
    have hR := r_root (m := m) hb hRST hRSS hXS (by rw [T2]; decide) (by rw [T3]; decide) hT35 hC 158 339
    have hboth : QT (f_T_X4_take b t (S.1 6 p) (S.1 6 q) (-1) 0 0 S) (fun s => QT (f_T_X11_reads 799 799 0 (-1) 0 T) (fun w => ROUT b (RVP b t m q 0 S T (S.1 6 q) 799 0 (-1) 0 [] [] S T) s w ∧ KRA b t S s ∧ KRB T w.2)) := fun s es w ew => ⟨hR s es w ew, wr_T_X4_take (s := S) rfl rfl (KRA.rf hb) s es, wr_T_X11_reads (s := T) KRB.rf w ew⟩
    refine QT.bnd2 hboth (fun s w hsw => ?_)
    obtain ⟨hO, kA, kB⟩ := hsw
    have kNs : KRN b t σ s := kNS.kra kA
    have kMw : KRM τ w.2 := kMT.krb kB
    obtain ⟨wv, ws⟩ := w
    dsimp only at hO kB kMw ⊢
    have kNc : ∀ z, KRA b t S z → KRN b t σ (stI z t 1 0) := fun z hz => (kNS.kra hz).clr 0
    rcases hO with ⟨f7, w0⟩ | ⟨w1, hV⟩
    · -- it failed
      have w0 : wv = 0 := w0
      refine QT.ite (fun h => absurd h f7) (fun _ => ?_)
      refine (a_run129F f7).mono (fun qa hqa => ?_)
      unfold f_X11_readsAll_106
      refine QT.ite (fun _ => QT.ite (fun _ => QT.ret ?_) (fun h => absurd w0 h)) (fun h => absurd w0 h)
      refine ⟨⟨by rw [hqa.2]; exact kNc s kA, kMw⟩, .inl ⟨Int32.toInt_inj.mp (hqa.1.trans (show -3 = (-3 : Int32).toInt by decide)), .inr hqa.1, by rw [hqa.2, stI_at, upA rfl]; exact l0⟩⟩
    · have w1 : wv = 1 := w1
      obtain ⟨e, hC9, he, hVal, ⟨⟨v1, v2⟩, ⟨v3, v4⟩, v5⟩, _, _⟩ := hV
      obtain ⟨_, hR9, c1, c46, ce⟩ := hC9
      have hR9 : RPS b m s ws := hR9
      have f7 : s.1 b 7 = 0 := hR9.1.1
      have e5 : s.1 b 5 = ws.1 0 64 := hR9.2.1.1
      have e6 : s.1 b 6 = ws.1 0 65 := hR9.2.1.2
      refine QT.ite (fun _ => ?_) (fun h => absurd f7 h)
      rw [e5, e6]
      refine QT.ile (fun hle => ?_) (fun hgt => ?_)
      · -- read
        refine (a_run129S f7).mono (fun qa hqa => ?_)
        refine QT.ite (fun h => by rw [w1] at h; exact absurd h one_ne) (fun _ => ?_)
        refine QT.ile (fun _ => ?_) (fun h => by omega)
        unfold f_X11_readsAll_106
        refine QT.ite (fun h => by rw [w1] at h; exact absurd h one_ne) (fun _ => QT.ret ?_)
        have kNq : KRN b t σ qa.2 := by
          refine ⟨fun c a d => (hqa.2.1.1 c (by omega) (by omega)).trans (kNs.1 c a d), fun i hi => ?_, fun c a d e => by rw [hqa.2.1.2]; exact kNs.2.2.1 c a d e, by rw [hqa.2.1.2]; exact kNs.2.2.2.1, fun c hc => by rw [hqa.2.1.2]; exact kNs.2.2.2.2 c hc⟩
          rw [hqa.2.1.1 t (by omega) (by omega)]
          exact kNs.2.1 i hi
        have hTG := hPq.tg (by omega) (by rw [T2]; decide) (by rw [T3]; decide)
        refine ⟨⟨kNq, kMw⟩, .inr ⟨rfl, S, T, s, e, ⟨hPq, by omega, hTG⟩, ⟨kA.kta, kA, kB⟩, ⟨hqa.1, hqa.2.1⟩, hVal, ⟨⟨he, ce⟩, c1, c46, by rw [hqa.2.2]; exact c1⟩, ?_, ?_, ?_, ?_, v5⟩⟩
        · rw [v1]; exact lm
        · rw [v2]; exact l0
        · show (ws.1 24 0).toInt = -1
          rw [v3]; exact lm
        · show (ws.1 25 0).toInt = 0
          rw [v4]; exact l0
      · -- bytes are left
        refine QT.bnd (Q := fun z => ¬ z.1 b 7 = 0 ∧ KRA b t S z) (fun z ez => ⟨a_failed hb 14 _ s (by decide) z ez, wr_X4_fail rfl kA z ez⟩) (fun z hz => ?_)
        refine (a_run129F hz.1).mono (fun qa hqa => ?_)
        refine QT.ite (fun h => by rw [w1] at h; exact absurd h one_ne) (fun _ => ?_)
        refine QT.ile (fun h => by omega) (fun _ => ?_)
        refine QT.bnd (Q := fun q9 => q9.1 = 0 ∧ KRB T q9.2) (fun q9 e9 => ⟨q_fails 14 _ ws q9 e9, wr_X11_fails kB q9 e9⟩) (fun q9 h9 => ?_)
        unfold f_X11_readsAll_106
        refine QT.ite (fun _ => QT.ret ?_) (fun h => absurd h9.1 h)
        refine ⟨⟨by rw [hqa.2]; exact kNc z hz.2, kMT.krb h9.2⟩, .inl ⟨Int32.toInt_inj.mp (hqa.1.trans (show -3 = (-3 : Int32).toInt by decide)), .inr hqa.1, by rw [hqa.2, stI_at, upA rfl]; exact l0⟩⟩
