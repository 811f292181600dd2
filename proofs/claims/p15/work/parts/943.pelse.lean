/-! what else tells, and an either's branch: both sides -/
theorem KTA.ty {S σ : ST} (h : KTA S σ) : (σ.1 4 = S.1 4 ∧ σ.1 7 = S.1 7) ∧ (σ.1 13 = S.1 13 ∧ σ.2.1 14 = S.2.1 14) ∧ σ.1 15 = S.1 15 ∧ σ.1 16 = S.1 16 ∧ σ.1 17 = S.1 17 := ⟨⟨(h 4 (by omega) (by omega)).1, (h 7 (by omega) (by omega)).1⟩, ⟨(h 13 (by omega) (by omega)).1, (h 14 (by omega) (by omega)).2⟩, (h 15 (by omega) (by omega)).1, (h 16 (by omega) (by omega)).1, (h 17 (by omega) (by omega)).1⟩
theorem KPK.kta {s σ : ST} (h : KPK s σ) : KTA s σ := fun c h1 h2 => ⟨h.1 c (by omega) (by omega), by rw [h.2.2]⟩
theorem KVA.kta {s σ : ST} (h : KVA s σ) : KTA s σ := fun c h1 h2 => ⟨h.1 c (by omega) (by omega), h.2.2.1 c (by omega) (by omega)⟩
theorem TG.sE {p : Nat} {rm : Int} {S T σ : ST} {d : Nat} {x y : Int32} (h : TG p rm S T d x y) (hn : (S.1 4 1).toInt ≤ 262) (k : KTA S σ) : f_X5_sortOf 4 x σ = some (T.1 2 y.toNatClampNeg, σ) ∧ f_X5_innerOf 4 x σ = some (S.1 16 x.toNatClampNeg, σ) ∧ f_X5_branchAfter 4 x σ = some (S.1 17 x.toNatClampNeg, σ) := by
  obtain ⟨⟨k4, _⟩, _, k15, k16, k17⟩ := k.ty
  have hb : 0 ≤ x.toInt ∧ x.toInt < (σ.1 4 1).toInt := by rw [k4]; exact h.1.1
  have hn' : (σ.1 4 1).toInt ≤ 262 := by rw [k4]; exact hn
  refine ⟨?_, ?_, ?_⟩
  · rw [a4_sortOf x σ hb hn', k15, h.2.1]
  · rw [a4_innerOf x σ hb hn', k16]
  · rw [a4_branchAfter x σ hb hn', k17]
theorem OWN.tg {p : Nat} {rm : Int} {S T : ST} {d : Nat} {x y v br u : Int32} (h : TG p rm S T d x y) (k : OWN S T x y br v u) : ∃ d', TG p rm S T d' v u := by
  rcases k with ⟨_, e1, e2, _⟩ | ⟨h8, i, _, h1, e1, e2⟩
  · rw [e1, e2]
    exact ⟨d, h⟩
  · obtain ⟨m, hm, hM, hT, _⟩ := h.2.2.2.2.2 h8
    rw [e1, e2]
    exact TG.ex (hT i (by omega)).1
/-- the branch that has a sort -/
theorem a_branch15 {p : Nat} {rm : Int} {S T σ : ST} {d : Nat} {x y : Int32} (h : TG p rm S T d x y) (hn : (S.1 4 1).toInt ≤ 262) (kv : KTA S σ) (h8 : (T.1 2 y.toNatClampNeg).toInt = 8) {k : Nat} {s K : Int32} (hk : (k : Int) < (T.1 4 y.toNatClampNeg).toInt) (hK : K.toInt = k) (hs : s = T.1 2 (T.1 5 (4 * y.toNatClampNeg + k)).toNatClampNeg) {P : Int32 × ST → Prop} (hP : QT (f_X2_packBranch_56 (chn (S.1 17) (S.1 16 x.toNatClampNeg) k) K σ) P) : ∀ (n i : Nat) (x3 x4 x5 : Int32), i ≤ k → x3 = chn (S.1 17) (S.1 16 x.toNatClampNeg) i → x4.toInt = i → x5.toInt = i → QT (f_X2_packBranch_15 n s x3 x4 x5 σ) P := by
  have l0 := li_0
  have l1 := li_1
  have l4 := li_4
  have lm := li_m1
  obtain ⟨m, hm, hM, hT, hz, hd⟩ := h.2.2.2.2.2 h8
  intro n
  induction n with
  | zero =>
    intro i x3 x4 x5 _ _ _ _
    rw [f_X2_packBranch_15]
    exact QT.none
  | succ n ih =>
    intro i x3 x4 x5 hi h3 h4 h5
    rw [f_X2_packBranch_15]
    obtain ⟨d', hG⟩ := TG.ex (hT i (by omega)).1
    rw [← h3] at hG
    have hx3 := hG.1.1.1
    refine QT.ile (fun h => by omega) (fun _ => ?_)
    refine QT.ieq (fun h => by omega) (fun _ => ?_)
    obtain ⟨g1, _, g3⟩ := hG.sE hn kv
    rw [g1]
    rw [sbnd]
    dsimp only
    refine QT.ite (fun e => ?_) (fun e => ?_)
    · have eik : i = k := by
        rcases Nat.lt_or_ge i k with h9 | h9
        · exfalso
          rw [hs] at e
          exact hd i k h9 (by omega) (by rw [e])
        · omega
      subst eik
      have e4 : x4 = K := Int32.toInt_inj.mp (by omega)
      rw [h3, e4]
      exact hP
    · have hik : i < k := by
        rcases Nat.lt_or_ge i k with h9 | h9
        · exact h9
        · have : i = k := by omega
          subst this
          exact absurd hs.symm e
      rw [g3]
      rw [sbnd]
      dsimp only
      have e4 := il_addE (x := x4) (y := 1) (by omega) (by omega)
      have e5 := il_addE (x := x5) (y := 1) (by omega) (by omega)
      exact ih (i + 1) _ (x4 + 1) (x5 + 1) (by omega) (by rw [h3]; rfl) (by omega) (by omega)
/-- the type that what else tells fits -/
theorem a_firstC {p : Nat} {rm : Int} {S T σ : ST} {d : Nat} {x y : Int32} (h : TY p rm S T (d + 1) x y) (hn : (S.1 4 1).toInt ≤ 262) (kv : KTA S σ) : ∃ c : Int32, f_X5_firstChoice 4 x σ = some (c, σ) ∧ (∃ s : Int32, f_X5_sortOf 4 c σ = some (s, σ) ∧ s.toInt = FCS (T.1 2) (T.1 5) y) ∧ ((T.1 2 y.toNatClampNeg).toInt = 8 ∧ ¬ c = x ∨ ¬ (T.1 2 y.toNatClampNeg).toInt = 8 ∧ c = x) := by
  have l8 : (8 : Int32).toInt = 8 := by decide
  have hG := TG.of h
  obtain ⟨g1, g2, _⟩ := hG.sE hn kv
  unfold f_X5_firstChoice FCS
  rw [g1]
  rw [sbnd]
  dsimp only
  by_cases e : T.1 2 y.toNatClampNeg = 8
  · have e8 : (T.1 2 y.toNatClampNeg).toInt = 8 := by rw [e]; exact l8
    obtain ⟨m, hm, hM, hT, hz, hd⟩ := hG.2.2.2.2.2 e8
    obtain ⟨hT0, hn8⟩ := hT 0 (by omega)
    obtain ⟨d', hG0⟩ := TG.ex hT0
    rw [Nat.add_zero] at hG0 hn8
    have hG0 : TG p rm S T d' (S.1 16 x.toNatClampNeg) (T.1 5 (4 * y.toNatClampNeg)) := hG0
    rw [if_pos e, g2, if_pos e8]
    rw [sbnd]
    refine ⟨_, rfl, ⟨_, (hG0.sE hn kv).1, rfl⟩, .inl ⟨e8, fun e9 => ?_⟩⟩
    have h1 := hG0.2.1
    have e9 : S.1 16 x.toNatClampNeg = x := e9
    rw [e9, hG.2.1] at h1
    rw [← h1] at hn8
    exact hn8 e8
  · have e8 : ¬ (T.1 2 y.toNatClampNeg).toInt = 8 := fun h => e (Int32.toInt_inj.mp (h.trans l8.symm))
    rw [if_neg e, if_neg e8]
    exact ⟨_, rfl, ⟨_, g1, rfl⟩, .inr ⟨e8, rfl⟩⟩
/-- a field's else, as bytes -/
def ELP (p : Nat) (rm : Int) (S T : ST) (N : Nat) : Prop := TY p rm S T 4 (S.1 13 N) (T.1 15 N) ∧ (¬ (T.1 16 N).toInt = 0 → EWR (FCS (T.1 2) (T.1 5) (T.1 15 N)) (S.2.1 14 N) (T.2.1 17 N) (T.2.1 18 N) (T.1 19 N))
theorem REC.elp {p : Nat} {rm : Int} {S T : ST} {R m : Nat} (h : REC p rm S T R m) {j : Nat} (hj : j < m) : ELP p rm S T (8 * R + j) := by
  obtain ⟨_, _, h3, h4⟩ := h.2.2.2 j hj
  refine ⟨h3, fun h9 => ?_⟩
  rcases h4 with h4 | h4
  · exact absurd h4 h9
  · exact h4.2.1
theorem qa_else {p : Nat} {rm : Int} {S T σ : ST} (xR xk : Int32) {R k : Nat} (hR : xR.toInt = R) (hk : xk.toInt = k) (hR36 : R < 36) (hk8 : k < 8) (hE : ELP p rm S T (8 * R + k)) (he : ¬ (T.1 16 (8 * R + k)).toInt = 0) (hn : (S.1 4 1).toInt ≤ 262) (kv : KTA S σ) (hRM : RMC 32 σ) : QT (f_X2_packElse xR xk (S.1 13 (8 * R + k)) σ) (fun s => GRN 32 σ s) := by
  obtain ⟨c, c1, ⟨s, c2, c3⟩, _⟩ := a_firstC hE.1 hn kv
  have hEW := hE.2 he
  rw [← c3] at hEW
  unfold f_X2_packElse f_X2_packElse_21
  rw [c1]
  rw [sbnd]
  dsimp only
  have own : ∀ σ' : ST, KPK σ σ' → RMC 22 σ' → QT ((f_X5_sortOf 4 c σ').bind fun q1 => (f_X5_elseWorth 4 xR xk q1.2).bind fun q3 => (f_X2_packPlain q1.1 q3.1 q3.2).bind fun q5 => some q5) (fun t => GRN 22 σ' t) := fun σ' hk' hR' => by
    have kv' : KTA S σ' := kv.trans hk'.kta
    obtain ⟨c', c1', ⟨s', c2', c3'⟩, _⟩ := a_firstC hE.1 hn kv'
    have ec : c' = c := by
      have h1 : f_X5_firstChoice 4 (S.1 13 (8 * R + k)) σ' = some (c', σ') := c1'
      unfold f_X5_firstChoice at h1 c1
      have g' := (TG.of hE.1).sE hn kv'
      have g := (TG.of hE.1).sE hn kv
      rw [g'.1, sbnd] at h1
      rw [g.1, sbnd] at c1
      dsimp only at h1 c1
      rw [g'.2.1] at h1
      rw [g.2.1] at c1
      by_cases e8 : T.1 2 (T.1 15 (8 * R + k)).toNatClampNeg = 8
      · rw [if_pos e8, sbnd] at h1 c1
        have h1 := Option.some.inj h1
        have c1 := Option.some.inj c1
        exact ((Prod.mk.inj h1).1.symm).trans (Prod.mk.inj c1).1
      · rw [if_neg e8] at h1 c1
        have h1 := Option.some.inj h1
        have c1 := Option.some.inj c1
        exact ((Prod.mk.inj h1).1.symm).trans (Prod.mk.inj c1).1
    rw [ec] at c2'
    rw [c2']
    rw [sbnd]
    dsimp only
    rw [a4_elseWorth xR xk σ' hR hk hR36 hk8, kv'.ty.2.1.2]
    rw [sbnd]
    dsimp only
    have e3 : s'.toInt = s.toInt := c3'.trans c3.symm
    exact QT.bnd (qa_plain s' _ _ _ _ σ' (by rw [e3]; exact hEW) hR') (fun t ht => QT.ret ht)
  refine QT.ite (fun _ => (own σ KPK.rf (hRM.to (GRN.rf (k := 0) (by omega)) (by omega))).mono (fun t ht => ht.mono (by omega))) (fun _ => ?_)
  refine QT.bnd (Q := fun t => GRN 10 σ t ∧ KPK σ t) (QT.and (qa_putNumber 0 σ (hRM.to (GRN.rf (k := 0) (by omega)) (by omega))) (wk_X2_putNumber (s := σ) KPK.rf)) (fun t ht => ?_)
  exact (own t ht.2 (hRM.to ht.1 (by omega))).mono (fun u hu => ht.1.trans hu (by omega))
/-- a field's else beside the node that was filled in -/
theorem pk_else {rw_ : Int32 → ST → Option ST} {p : Nat} {rm : Int} {S T σ τ : ST} (xR xk x1 : Int32) {R k v0 v : Nat} {y : EN} (hR : xR.toInt = R) (hk : xk.toInt = k) (hR36 : R < 36) (hk8 : k < 8) (hE : ELP p rm S T (8 * R + k)) (hn : (S.1 4 1).toInt ≤ 262) (kv : KTA S σ) (h1 : x1.toInt = v) (hy : y.2.2.1 = v) (hL : ELN T τ v0 (8 * R + k) y) (hK : PKR σ τ) (hRM : RMC 32 σ) : QT (f_X2_packElse xR xk (S.1 13 (8 * R + k)) σ) (fun s => QT (f_X11_writes rw_ x1 τ) (fun t => PKR s t)) := by
  have l0 := li_0
  have n1 : x1.toNatClampNeg = v := nC h1
  obtain ⟨_, ⟨he, hsort⟩, hbr, ⟨h21, h22, h23⟩, h28⟩ := hL
  rw [hy] at hsort hbr h21 h22 h23 h28
  obtain ⟨c, c1, ⟨s, c2, c3⟩, c4⟩ := a_firstC hE.1 hn kv
  have hEW := hE.2 he
  rw [← c3] at hEW
  have es : τ.1 20 v = s := Int32.toInt_inj.mp (hsort.trans c3.symm)
  have hEW2 : EWR s.toInt (S.2.1 14 (8 * R + k)) (τ.2.1 21 v) (τ.2.1 22 v) (τ.1 23 v) := by
    rw [h21, h22]
    rcases h23 with ⟨h5, h23⟩ | ⟨h5, h23⟩
    · rw [h23]
      exact hEW
    · unfold EWR at hEW ⊢
      rw [es] at h5
      rw [if_neg h5] at hEW ⊢
      exact ⟨hEW.1, hEW.2.1, h23⟩
  unfold f_X2_packElse f_X2_packElse_21 f_X11_writes
  rw [c1]
  rw [sbnd]
  dsimp only
  rw [n1]
  refine QT.sw ?_
  refine QT.grd (fun _ => ?_)
  refine QT.sw ?_
  have own : ∀ σ' τ' : ST, f_X5_sortOf 4 c σ' = some (s, σ') → KPK σ σ' → KWR τ τ' → PKR σ' τ' → RMC 22 σ' → QT ((f_X5_sortOf 4 c σ').bind fun q1 => (f_X5_elseWorth 4 xR xk q1.2).bind fun q3 => (f_X2_packPlain q1.1 q3.1 q3.2).bind fun q5 => some q5) (fun s' => QT (f_X11_writes_20 rw_ x1 τ') (fun t => PKR s' t)) := fun σ' τ' hc hk' hw' hK' hR' => by
    have kv' : KTA S σ' := kv.trans hk'.kta
    rw [hc]
    rw [sbnd]
    dsimp only
    rw [a4_elseWorth xR xk σ' hR hk hR36 hk8, kv'.ty.2.1.2]
    rw [sbnd]
    dsimp only
    have e20 : τ'.1 20 = τ.1 20 := hw'.1 20 (by omega) (by omega)
    have e23 : τ'.1 23 = τ.1 23 := hw'.1 23 (by omega) (by omega)
    have e28 : τ'.1 28 = τ.1 28 := hw'.1 28 (by omega) (by omega)
    have e2 : τ'.2 = τ.2 := hw'.2.2
    refine QT.bnd (pk_own (rw_ := rw_) s _ x1 σ' τ' h1 (by rw [e20]; exact es) (by rw [e2, e23]; exact hEW2) (by rw [e28]; exact h28) hK' hR') (fun q hq => QT.ret hq)
  rcases c4 with ⟨c5, c6⟩ | ⟨c5, c6⟩
  · have h0 : (τ.1 26 v).toInt = 0 := by
      rcases hbr with hbr | hbr
      · exact hbr.2
      · exact absurd c5 hbr.1
    refine QT.ite (fun e => absurd e c6) (fun _ => ?_)
    refine QT.sw ?_
    refine QT.ilt (fun h => by omega) (fun _ => ?_)
    refine QT.sw ?_
    have ez : (τ.1 26 v).toInt64 = 0 := by
      have : τ.1 26 v = 0 := Int32.toInt_inj.mp (h0.trans l0.symm)
      rw [this]
      decide
    rw [ez]
    refine QT.bnd2 (Q := fun s' t => PKR s' t ∧ GRN 10 σ s' ∧ KPK σ s' ∧ KWR τ t) ?_ (fun s' t hst => ?_)
    · intro s' es' t et
      have hR1 : RMC 10 σ := hRM.to (GRN.rf (k := 0) (by omega)) (by omega)
      exact ⟨pk_putNumber _ σ τ hK hR1 s' es' t et, qa_putNumber _ σ hR1 s' es', wk_X2_putNumber (s := σ) KPK.rf s' es', wk_X11_writesNumber (s := τ) KWR.rf t et⟩
    · obtain ⟨g1, g2, g3, g4⟩ := hst
      refine own s' t ?_ g3 g4 g1 (hRM.to g2 (by omega))
      -- the choice has its sort there, too
      have kv' : KTA S s' := kv.trans g3.kta
      obtain ⟨m, hm, hM, hT, _⟩ := (TG.of hE.1).2.2.2.2.2 c5
      obtain ⟨d', hG0⟩ := TG.ex (hT 0 (by omega)).1
      have g := (TG.of hE.1).sE hn kv
      unfold f_X5_firstChoice at c1
      rw [g.1, sbnd] at c1
      dsimp only at c1
      have l8 : (8 : Int32).toInt = 8 := by decide
      rw [if_pos (Int32.toInt_inj.mp (c5.trans l8.symm)), g.2.1, sbnd] at c1
      have ec : S.1 16 (S.1 13 (8 * R + k)).toNatClampNeg = c := (Prod.mk.inj (Option.some.inj c1)).1
      have hG1 : TG p rm S T d' c (T.1 5 (4 * (T.1 15 (8 * R + k)).toNatClampNeg + 0)) := by
        rw [← ec]
        exact hG0
      have q1 := (hG1.sE hn kv).1
      have q2 := (hG1.sE hn kv').1
      rw [c2] at q1
      have e9 := (Prod.mk.inj (Option.some.inj q1)).1
      rw [q2, e9]
  · have h0 : (τ.1 26 v).toInt = -1 := by
      rcases hbr with hbr | hbr
      · exact absurd hbr.1 c5
      · exact hbr.2
    refine QT.ite (fun _ => ?_) (fun e => absurd c6 e)
    refine QT.sw ?_
    refine QT.ilt (fun _ => ?_) (fun h => by omega)
    refine QT.sw ?_
    exact own σ τ c2 KPK.rf KWR.rf hK (hRM.to (GRN.rf (k := 0) (by omega)) (by omega))
