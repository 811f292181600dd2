/-! a message written: both sides -/
theorem KTB.i0 {s σ : ST} {i : Nat} {v : Int32} (h : KTB s σ) : KTB s (stI σ 0 i v) := h.i (by decide)
theorem PHB.tg {p : Nat} {S T : ST} (h : PHB 4 p S T) (hp : p < 6) (h2 : (T.1 2 799).toInt = 7) (h3 : (T.1 3 799).toInt = 0) : TG p (T.1 8 p).toInt S T 0 (S.1 6 p) 799 := by
  have l799 : (799 : Int32).toInt = 799 := by decide
  have n799 : (799 : Int32).toNatClampNeg = 799 := by decide
  obtain ⟨⟨_, c1, c2⟩, ⟨r1, r2, r3⟩, _⟩ := h
  have r1 : 0 ≤ (S.1 6 p).toInt ∧ (S.1 6 p).toInt < (S.1 4 1).toInt := r1
  have r2 : (S.1 15 (S.1 6 p).toNatClampNeg).toInt = 7 := r2
  have r3 : (S.1 16 (S.1 6 p).toNatClampNeg).toInt = 6 * (p : Int) := r3
  unfold TG
  rw [n799]
  refine ⟨⟨r1, by omega⟩, Int32.toInt_inj.mp (by omega), by omega, fun h => by omega, fun _ => ⟨by omega, by omega⟩, fun h => by omega⟩
/-- the bytes of a tree: both sides -/
theorem ab_pack {rd : Prop} {b p : Nat} {rm : Int} {S T ρ ρB : ST} (hP : PKC b p rm S T ρ ρB) {tA tB : Int32} {d e f : Nat} (hG : TG p rm S T d tA tB) (hV : VAL rd b p S T ρ ρB 32 tA tB (0, e) (0, f)) (he : (e : Int) ≤ (ρ.1 b 1).toInt ∧ (e : Int) ≤ (ρ.1 b 0).toInt) (he2 : e ≤ 1000) : QT (f_X2_pack b tA ρ) (fun s => QT (f_X11_writesTree 0 ρB) (fun t => PKR s t ∧ KPK ρ s ∧ KWR ρB t ∧ 0 ≤ (s.1 87 2).toInt)) := by
  have l0 := li_0
  unfold f_X2_pack f_X11_writesTree
  have k0 : KPK ρ (stI ρ 87 2 0) := KPK.rf.i (.inl ⟨rfl, rfl⟩)
  have s0 : (stI ρ 87 2 0).1 87 2 = 0 := by rw [stI_at, upA rfl]
  have w0 : KWR ρB (stI (stI ρB 0 48 0) 0 49 0) := (KWR.rf.i (by omega)).i (by omega)
  have t48 : (stI (stI ρB 0 48 0) 0 49 0).1 0 48 = 0 := by rw [stI_at, upN (by omega), stI_at, upA rfl]
  have t49 : (stI (stI ρB 0 48 0) 0 49 0).1 0 49 = 0 := by rw [stI_at, upA rfl]
  have e9 : ((e - 0 : Nat) : Int) = e := by omega
  have h := pk_RV hP 32 FR FRB tA tB (0, e) (0, f) d 0 0 0 _ hG hV l0 l0 he (by omega) k0 ⟨by rw [s0, l0]; omega, by rw [s0, l0]; show (0 : Int) + 300 * ((e - 0 : Nat) : Int) ≤ _; omega⟩
  refine QT.bnd h (fun s hs => QT.ret ?_)
  refine QT.bnd (hs.2 _ w0 ⟨by rw [t48, l0]; omega, .inl ⟨t49, by rw [s0, t48], fun i hi => by rw [t48, l0] at hi; omega⟩⟩) (fun t ht => QT.ret ⟨ht.1, k0.trans hs.1.2, ht.2, ?_⟩)
  have := hs.1.1.1
  rw [s0, l0] at this
  exact this
/-- the class keeps no tree but the one that is told, and the token -/
theorem KVA.msg {σ s τ : ST} (h : MSG σ τ) (k : KVA σ s) : MSG s τ := h.eq (k.1 38 (by omega) (by omega)) (k.1 39 (by omega) (by omega)) (k.1 40 (by omega) (by omega)) rfl rfl rfl
theorem KVB.msg {σ τ t : ST} (h : MSG σ τ) (k : KVB τ t) : MSG σ t := h.eq rfl rfl rfl (k.1 32 (by omega) (by omega) (by omega)) (k.1 33 (by omega) (by omega) (by omega)) (k.1 34 (by omega) (by omega) (by omega))
theorem KPK.msg {σ s τ : ST} (h : MSG σ τ) (k : KPK σ s) : MSG s τ := h.eq (k.1 38 (by omega) (by omega)) (k.1 39 (by omega) (by omega)) (k.1 40 (by omega) (by omega)) rfl rfl rfl
theorem KWR.msg {σ τ t : ST} (h : MSG σ τ) (k : KWR τ t) : MSG σ t := h.eq rfl rfl rfl (k.1 32 (by omega) (by omega)) (k.1 33 (by omega) (by omega)) (k.1 34 (by omega) (by omega))
/-- the reference's end of write -/
theorem q_84 (x1 x2 x3 : Int32) (τ : ST) {P : ST → Prop} (h : P τ) : QT (f_X11_write_84 x1 x2 x3 0 τ) (fun q => P q.1.2) := by
  unfold f_X11_write_84 f_X11_write_118 f_X11_write_129
  refine QT.ite (fun _ => ?_) (fun h => absurd rfl h)
  refine QT.ite (fun _ => ?_) (fun h => absurd rfl h)
  exact QT.ite (fun _ => QT.ret h) (fun h => absurd rfl h)
theorem q_wrongK (p0 p1 : Int32) (σ : ST) : QT (f_X11_wrong p0 p1 σ) (fun q => q.1 = 0 ∧ KVB σ q.2) := by
  refine QT.and ?_ (fun q e => wv_X11_wrong (s := σ) KVB.rf q e)
  unfold f_X11_wrong f_X11_wrong_21
  exact QT.ite (fun _ => QT.ret rfl) (fun _ => QT.ret rfl)
theorem ab_write (p0 p1 p2 : Int32) (σ τ : ST) (hA : IA σ) (hB : IB τ) (hF : FE σ τ) (hc : σ.1 4 0 = τ.1 0 32) (hkw : σ.2.1 3 = kw0) (hT8 : T8 σ) (hT5 : T5 σ τ) (hM : MSG σ τ) : QT (f_X10_write p0 p1 p2 σ) (fun qa => QT (f_X11_write p0 p1 p2 τ) (fun qb => MSG qa.2 qb.1.2)) := by
  have l0 := li_0
  have l1 := li_1
  have lm := li_m1
  have l400 := li_400
  have l3' := l64_3
  have l0' := l64_0
  have htape := hA.tape
  unfold bI at htape
  have hpl := hB.1.1
  unfold f_X10_write f_X11_write
  have hM0 : MSG σ (stI τ 0 0 0) := hM.eq rfl rfl rfl (stI_ne (by omega)) (stI_ne (by omega)) (stI_ne (by omega))
  have g2 : (stI τ 0 0 0).1 0 2 = τ.1 0 2 := rfl
  have g32 : (stI τ 0 0 0).1 0 32 = τ.1 0 32 := rfl
  have g1 : (stI τ 0 0 0).1 1 = τ.1 1 := stI_ne (by omega)
  have gT : KTB τ (stI τ 0 0 0) := KTB.rf.i0
  generalize stI τ 0 0 0 = u at hM0 g2 g32 g1 gT
  have i0 := i64 p0
  have i2 := i64 p2
  have iu := i64 (u.1 0 2)
  have iu2 : (u.1 0 2).toInt = (τ.1 0 2).toInt := by rw [g2]
  have e01 : σ.1 0 1 = τ.1 0 2 := hF.1
  refine QT.bndR (k2_isNumber p0 σ) (fun v hv => ?_)
  dsimp only
  refine QT.sw ?_
  refine QT.bndR (b_within _ _ _ _) (fun w hw => ?_)
  dsimp only
  refine QT.sw ?_
  have kp := k2_isPlan p1 σ
  refine QT.ieq (fun hv0 => ?_) (fun hv0 => ?_)
  · refine QT.ret ?_
    exact QT.ieq (fun _ => QT.ret hM0) (fun h => by omega)
  refine QT.bndR kp (fun v2 hv2 => ?_)
  rw [hc] at hv2
  dsimp only
  refine QT.sw ?_
  refine QT.ieq (fun h => by omega) (fun _ => ?_)
  refine QT.bndR (b_isPlanAt p1 u (by rw [g32]; exact hpl)) (fun w2 hw2 => ?_)
  rw [g32] at hw2
  dsimp only
  refine QT.sw ?_
  refine QT.ieq (fun hv0 => ?_) (fun hv0 => ?_)
  · refine QT.ret ?_
    exact QT.ieq (fun _ => QT.ret hM0) (fun h => by omega)
  have hp1 : 0 ≤ p1.toInt ∧ p1.toInt < (τ.1 0 32).toInt := by
    rcases hv2 with h9 | h9
    · omega
    · exact h9.2
  have hp0 : 0 ≤ p0.toInt ∧ p0.toInt < 4 := by
    rcases hv with h9 | h9
    · omega
    · exact h9.2
  refine QT.sw ?_
  refine QT.ieq (fun h => by omega) (fun _ => ?_)
  refine QT.bndR (b_within _ _ _ _) (fun w3 hw3 => ?_)
  dsimp only
  refine QT.sw ?_
  refine QT.ilt (fun hn => QT.ret (QT.ieq (fun _ => QT.ret hM0) (fun h => by omega))) (fun hn0 => ?_)
  refine QT.ile (fun hle => ?_) (fun hgt => QT.ret (QT.ieq (fun _ => QT.ret hM0) (fun h => by rw [e01] at hgt; omega)))
  rw [e01] at hle htape
  refine QT.sw ?_
  refine QT.ieq (fun h => by omega) (fun _ => ?_)
  refine QT.sw ?_
  -- the text
  have hT8u : ∀ i, bI (u.1 1 i) (-128) 127 := fun i => by rw [g1, ← hF.2]; exact hT8 i
  have s1c : ∀ c, c ≠ 0 → (stI σ 0 1 0).1 c = σ.1 c := fun c h => stI_ne h
  refine QT.bnd2 (Q := fun a b => (BGN (stI σ 0 1 0) u a b ∧ (uT b : Int) ≤ p2.toInt) ∧ KTB τ b) (fun a ea b eb => ⟨ab_begin p2 (stI σ 0 1 0) u (by rw [s1c 1 (by omega), g1]; exact hF.2) hT8u hkw (by omega) a ea b eb, w_X11_begins (s := τ) gT b eb⟩) (fun a b hab => ?_)
  obtain ⟨hab, hTb⟩ := hab
  obtain ⟨⟨hXW, ⟨f1, f2, f3⟩, f4, f5⟩, hub⟩ := hab
  obtain ⟨p, hp⟩ : ∃ p : Nat, p1.toInt = p := ⟨p1.toInt.toNat, by omega⟩
  have hp6 : p < 6 := by
    unfold bI at hpl
    omega
  have np1 : p1.toNatClampNeg = p := nC hp
  have root : ∀ s : ST, f_X5_rootType 4 p1 s = some (s.1 6 p, s) := fun s => by
    unfold f_X5_rootType
    rw [if_neg (fun h => by have := Int32.lt_iff_toInt_lt.mp h; omega), if_neg (fun h => by have := Int32.le_iff_toInt_le.mp h; have l6 := li_6; omega), if_pos (by omega), np1]
  rw [root]
  rw [sbnd]
  dsimp only
  unfold f_X8_parse f_X7_clear
  rw [sbnd]
  unfold f_X11_rootType
  refine QT.sw ?_
  refine QT.lt (fun q9 hq9 => ?_)
  subst hq9
  dsimp only
  refine QT.sw ?_
  -- what both start from
  generalize hS : stI a 62 1 0 = S
  generalize hT : stI (stI (stI b 0 46 0) 2 (799 : Int32).toNatClampNeg 7) 3 (799 : Int32).toNatClampNeg 0 = T
  have n799 : (799 : Int32).toNatClampNeg = 799 := by decide
  rw [n799] at hT
  have S0 : ∀ c, c ≠ 62 → S.1 c = a.1 c := fun c h => by rw [← hS]; exact stI_ne h
  have S62 : S.1 62 = upd (a.1 62) 1 0 := by rw [← hS]; exact stI_at
  have SL : S.2 = a.2 := by rw [← hS]; rfl
  have T0 : ∀ c, c ≠ 0 → c ≠ 2 → c ≠ 3 → T.1 c = b.1 c := fun c h0 h2 h3 => by rw [← hT, stI_ne h3, stI_ne h2, stI_ne h0]
  have T00 : T.1 0 = upd (b.1 0) 46 0 := by rw [← hT, stI_ne (by omega), stI_ne (by omega), stI_at]
  have T2 : T.1 2 = upd (b.1 2) 799 7 := by rw [← hT, stI_ne (by omega), stI_at, stI_ne (by omega)]
  have T3 : T.1 3 = upd (b.1 3) 799 0 := by rw [← hT, stI_at, stI_ne (by omega), stI_ne (by omega)]
  have TL : T.2 = b.2 := by rw [← hT]; rfl
  have aσ : ∀ c, c ≠ 0 → c ≠ 2 → a.1 c = σ.1 c := fun c h0 h2 => (f1 c h2).trans (s1c c h0)
  have hKTBT : KTB τ T := by
    rw [← hT]
    exact (hTb.i0 (i := 46) (v := 0)).t
  have hKTA : KTA σ S := fun c h1 h2 => ⟨by rw [S0 c (by omega), aσ c (by omega) (by omega)], by rw [SL, f2 c (by omega)]; rfl⟩
  have hPHB : PHB 4 p S T := (hT5 p (by omega)).keep hp6 hKTA hKTBT.kr
  have e6 : a.1 6 p = S.1 6 p := by rw [S0 6 (by omega)]
  have hTG : TG p (T.1 8 p).toInt S T 0 (S.1 6 p) 799 := hPHB.tg hp6 (by rw [T2, upA rfl]; decide) (by rw [T3, upA rfl]; decide)
  have hu9 : uT T = uT b := uT_eq (by rw [T00, upN (by omega)]) (by rw [T00, upN (by omega)]) (by rw [T00, upN (by omega)])
  have hXW2 : LX S T ∧ TWX S T := by
    refine ⟨hXW.1.ext (S0 1 (by omega)) (S0 2 (by omega)) (by rw [SL]) (by rw [SL]) (T0 1 (by omega) (by omega) (by omega)) (fun i hi => by
      rw [T00, upN (fun e => by rw [e] at hi; revert hi; decide)]) (by rw [TL]), hXW.2.ext (S0 2 (by omega)) (by rw [SL]) (by rw [T00, upN (by omega)]) (by rw [TL]) (by rw [TL])⟩
  have c62 : (σ.1 62 0).toInt = 502 := hA.t62.1
  have hC : CXT S T S T 0 0 (1000 + (0 : Nat)) := by
    refine ⟨⟨KVA.rf, KVB.rf⟩, hXW2, ⟨?_, ?_⟩, ?_, ?_, by omega⟩
    · rw [S62, upA rfl]
      exact l0
    · rw [S62, upN (by omega), aσ 62 (by omega) (by omega)]
      exact c62
    · rw [T00, upA rfl]
      exact l0
    · omega
  have hMS : MSG S T := hM0.eq (by rw [S0 38 (by omega), aσ 38 (by omega) (by omega)]) (by rw [S0 39 (by omega), aσ 39 (by omega) (by omega)]) (by rw [S0 40 (by omega), aσ 40 (by omega) (by omega)]) (by rw [T0 32 (by omega) (by omega) (by omega), f4 32 (by omega)]) (by rw [T0 33 (by omega) (by omega) (by omega), f4 33 (by omega)]) (by rw [T0 34 (by omega) (by omega) (by omega), f4 34 (by omega)])
  rw [e6]
  have hval := (ab_RV hPHB hp6 FR FRB).2.2 0 0 0 (S.1 6 p) 799 (-1) (-1) 0 p1 0 [] [] S T 0 0 (by omega) l0 l0 hp hTG hC (.inl ⟨⟨lm, lm⟩, rfl, rfl, l0⟩)
  have hboth : QT (f_T_X8_parseValue (S.1 6 p) (-1) 0 0 S) (fun qa => QT (f_T_X11_value p1 799 0 (-1) 0 T) (fun qb => VOUT (0 : Nat) (VPOST p S T 0 (S.1 6 p) 799 0 0 (-1) (-1) 0 [] [] S T) qa qb.1 ∧ KVA S qa.2 ∧ KVB T qb.1.2)) := fun qa ea qb eb => ⟨hval qa ea qb eb, wv_T_X8_parseValue (s := S) KVA.rf qa ea, wv_T_X11_value (s := T) KVB.rf qb eb⟩
  -- both read the value
  refine QT.bnd2 (Q := fun (q9 : Int32 × ST) (qb : (Int32 × ST) × Nat) => (q9.1 = 0 ∧ (qb.1.1 = 0 ∨ ¬ qb.1.1 = 0 ∧ ¬ (qb.1.2.1 0 6).toInt = 0) ∧ MSG q9.2 qb.1.2) ∨ (¬ q9.1 = 0 ∧ ¬ qb.1.1 = 0 ∧ (qb.1.2.1 0 6).toInt = 0 ∧ MSG q9.2 qb.1.2 ∧ VPOST p S T 0 (S.1 6 p) 799 0 0 (-1) (-1) 0 [] [] S T q9.2 qb.1.2)) ?_ (fun q9 qb hq => ?_)
  · refine QT.bnd hboth (fun qa hqa => ?_)
    refine QT.ite (fun e0 => QT.ret (hqa.mono (fun qb h => ?_))) (fun e0 => ?_)
    · obtain ⟨h1, h2, h3⟩ := h
      refine .inl ⟨rfl, ?_, (hMS.eq (h2.1 38 (by omega) (by omega)) (h2.1 39 (by omega) (by omega)) (h2.1 40 (by omega) (by omega)) (h3.1 32 (by omega) (by omega) (by omega)) (h3.1 33 (by omega) (by omega) (by omega)) (h3.1 34 (by omega) (by omega) (by omega)))⟩
      rcases h1 with ⟨_, h1⟩ | ⟨h1, _⟩
      · rcases h1 with h1 | ⟨h1, _, h4⟩
        · exact .inl h1
        · exact .inr ⟨h1, by omega⟩
      · rw [e0] at h1
        omega
    · refine QT.ieq (fun hk => ?_) (fun hk => ?_)
      · unfold f_X8_parse_41
        refine QT.ret (hqa.mono (fun qb h => ?_))
        obtain ⟨h1, h2, h3⟩ := h
        rcases h1 with ⟨h1, _⟩ | ⟨_, h1, h4⟩
        · exact absurd (Int32.toInt_inj.mp (h1.trans l0.symm)) e0
        · obtain ⟨e, f, hC9, _⟩ := id h4
          refine .inr ⟨one_ne, fun h => by rw [h] at h1; omega, hC9.2.1.1.2.2.1.t0.mp (by omega), (hMS.eq (h2.1 38 (by omega) (by omega)) (h2.1 39 (by omega) (by omega)) (h2.1 40 (by omega) (by omega)) (h3.1 32 (by omega) (by omega) (by omega)) (h3.1 33 (by omega) (by omega) (by omega)) (h3.1 34 (by omega) (by omega) (by omega))), h4⟩
      · refine QT.bnd (Q := fun q5 => q5.1.toInt = 0 ∧ KVA qa.2 q5.2) (QT.and (QT.ok (a_refuse 1 qa.2)) (fun q e => wv_X6_refuse (s := qa.2) KVA.rf q e)) (fun q5 hq5 => ?_)
        obtain ⟨hq5, hk5⟩ := hq5
        refine QT.ieq (fun _ => QT.ret (hqa.mono (fun qb h => ?_))) (fun h => by omega)
        obtain ⟨h1, h2, h3⟩ := h
        rcases h1 with ⟨h1, _⟩ | ⟨_, h1, h4⟩
        · exact absurd (Int32.toInt_inj.mp (h1.trans l0.symm)) e0
        · obtain ⟨e, f, hC9, _⟩ := id h4
          have h2 := h2.trans hk5
          refine .inl ⟨rfl, .inr ⟨fun h => by rw [h] at h1; omega, fun h => hk ((hC9.2.1.1.2.2.1.t0.mpr h).trans l0.symm)⟩, (hMS.eq (h2.1 38 (by omega) (by omega)) (h2.1 39 (by omega) (by omega)) (h2.1 40 (by omega) (by omega)) (h3.1 32 (by omega) (by omega) (by omega)) (h3.1 33 (by omega) (by omega) (by omega)) (h3.1 34 (by omega) (by omega) (by omega)))⟩
  · rcases hq with ⟨e0, hb, hM9⟩ | ⟨e0, hb, htok, hM9, hP9⟩
    · -- refused
      refine QT.ite (fun _ => ?_) (fun h => absurd e0 h)
      unfold f_X6_faultAnswer
      rw [sbnd]
      refine QT.ret ?_
      refine QT.kac ?_
      rcases hb with hb | ⟨hb, ht⟩
      · refine QT.ite (fun _ => ?_) (fun h => absurd hb h)
        rw [hb]
        exact q_84 p0 p1 p2 qb.1.2 (P := fun t => MSG q9.2 t) hM9
      · refine QT.ite (fun h => absurd h hb) (fun _ => ?_)
        refine QT.ieq (fun h => absurd (h.trans l0) ht) (fun _ => ?_)
        refine QT.bnd (Q := fun q => q.1 = 0 ∧ KVB qb.1.2 q.2) (QT.and (q_wrong 1 qb.1.2) (fun q e => wv_X11_wrongHere (s := qb.1.2) KVB.rf q e)) (fun q13 h13 => ?_)
        rw [h13.1]
        exact q_84 p0 p1 p2 q13.2 (P := fun t => MSG q9.2 t) (h13.2.msg hM9)
    · -- a value: its bytes
      obtain ⟨e, f, hC9, ⟨he, hf, _⟩, hV9, _⟩ := hP9
      obtain ⟨⟨kA9, kB9⟩, _, ⟨c1, c0⟩, cv, _, ce⟩ := hC9
      refine QT.ite (fun h => absurd h e0) (fun _ => ?_)
      rw [root]
      rw [sbnd]
      dsimp only
      rw [show q9.2.1 6 p = S.1 6 p by rw [kA9.1 6 (by omega) (by omega)]]
      refine QT.sw ?_
      refine QT.kac ?_
      refine QT.ite (fun h => absurd h hb) (fun _ => ?_)
      refine QT.ieq (fun _ => ?_) (fun h => absurd (htok.trans l0.symm) h)
      unfold f_X11_write_84
      refine QT.ite (fun h => absurd h hb) (fun _ => ?_)
      refine QT.sw ?_
      have hPK : PKC 62 p (T.1 8 p).toInt S T q9.2 qb.1.2 := ⟨⟨by omega, by omega⟩, ⟨kA9.kta, hPHB.cnt.2.2⟩, fun i hi => hPHB.rec hp6 hi⟩
      have hV9 : VAL False 62 p S T q9.2 qb.1.2 32 (S.1 6 p) 799 (0, e) (0, f) := hV9
      refine QT.bnd2 (ab_pack hPK hTG hV9 ⟨by omega, by omega⟩ (by omega)) (fun s t hst => ?_)
      obtain ⟨g1, g2, g3, g4⟩ := hst
      have hMst : MSG s t := g3.msg (g2.msg hM9)
      refine QT.ile (fun hle => ?_) (fun hgt => ?_)
      · have h49 : t.1 0 49 = 0 := by
          rcases g1.2 with h9 | h9
          · exact h9.1
          · have := h9.2.2
            omega
        refine QT.sw ?_
        refine QT.ite (fun _ => ?_) (fun h => absurd h49 h)
        unfold f_X11_write_111 f_X11_write_116 f_X11_write_118
        refine QT.ite (fun h => absurd h one_ne) (fun _ => ?_)
        refine QT.sw ?_
        refine QT.bnd2 (ab_store p0 p1 s t hMst g1 h49) (fun s' t' h' => QT.ret ?_)
        unfold f_X11_write_129
        refine QT.ite (fun h => absurd h one_ne) (fun _ => QT.ret ?_)
        show MSG s' t'
        exact h'
      · have h49 : ¬ t.1 0 49 = 0 := by
          rcases g1.2 with h9 | h9
          · have := h9.2.1
            have := g1.1.2
            omega
          · exact h9.1
        refine QT.bnd (Q := fun q => KVA s q.2) (fun q e => wv_X6_refuse (s := s) KVA.rf q e) (fun q17 h17 => ?_)
        unfold f_X6_faultAnswer
        rw [sbnd]
        refine QT.ret ?_
        refine QT.ite (fun h => absurd h h49) (fun _ => ?_)
        refine QT.bnd (q_wrongK _ _ t) (fun q3 h3 => ?_)
        obtain ⟨a17, y17⟩ := q17
        obtain ⟨a3, y3⟩ := q3
        have h17 : KVA s y17 := h17
        obtain ⟨h30, h3⟩ := h3
        have h30 : a3 = 0 := h30
        have h3 : KVB t y3 := h3
        have hfin : MSG y17 y3 := h3.msg (h17.msg hMst)
        clear h3 h17
        refine QT.ite (fun _ => ?_) (fun h => absurd h30 h)
        unfold f_X11_write_116 f_X11_write_118 f_X11_write_129
        refine QT.ite (fun _ => ?_) (fun h => absurd rfl h)
        refine QT.ite (fun _ => QT.ret ?_) (fun h => absurd rfl h)
        exact hfin
