/-! a field filled in: both sides -/
theorem r_fill {b t m p q : Nat} {S T : ST} (hS : RST p q S T) (hSS : RSS b t S) {L : Nat} (hL : L ≤ 30) (yR x8 row f : Int32) {r j e : Nat} {l1 l2 : List EN} {σ τ : ST} (hC : RCX b t m S T σ τ e) (hr : (r : Int) < (T.1 8 q).toInt) (hj : (j : Int) < (T.1 11 (6 * q + r)).toInt) (hy : yR.toInt = 6 * (q : Int) + r) (h8 : x8.toInt = j) (hf : f.toInt = 8 * (6 * (q : Int) + r) + j) (hel : ¬ T.1 16 (8 * (6 * q + r) + j) = 0) (hP : PARG t σ τ e e row row x8 l1 l2) : QT (f_X4_fillIn b t yR x8 row σ) (fun s => (¬ s.1 b 7 = 0 ∧ 400 ≤ e) ∨ (e < 400 ∧ QT (f_X11_fills f row x8 τ) (fun w => RVP b t m q (L + 1) S T (S.1 13 (8 * (6 * q + r) + j)) (T.1 15 (8 * (6 * q + r) + j)) e row x8 l1 l2 σ τ s w))) := by
  have hC' := hC
  obtain ⟨⟨kA, kB⟩, hR0, h1, h46, h400⟩ := hC'
  have hb := kA.1
  have hb' := hb
  unfold BT at hb'
  have l0 := li_0
  have acQ := hS.1.2.2.1.2.acc hr
  have cQ := hS.1.2.2.1.2.cnt
  have hp6 := hS.1.1
  have m8 := acQ.2.2.1.2
  obtain ⟨⟨_, _⟩, _, hTv, hEl⟩ := acQ.2.2.2.2 j hj
  have hTv : TY q (T.1 8 q).toInt S T 4 (S.1 13 (8 * (6 * q + r) + j)) (T.1 15 (8 * (6 * q + r) + j)) := hTv
  obtain ⟨N, hN⟩ : ∃ N, N = 8 * (6 * q + r) + j := ⟨_, rfl⟩
  have hEW : EWR (FCS (T.1 2) (T.1 5) (T.1 15 N)) (S.2.1 14 N) (T.2.1 17 N) (T.2.1 18 N) (T.1 19 N) ∧ 0 ≤ FCS (T.1 2) (T.1 5) (T.1 15 N) ∧ FCS (T.1 2) (T.1 5) (T.1 15 N) ≤ 6 := by
    rw [hN]
    rcases hEl with h9 | ⟨_, h9⟩
    · exact absurd (Int32.toInt_inj.mp (h9.trans l0.symm)) hel
    · exact h9
  rw [← hN] at hTv ⊢
  obtain ⟨hE, hE0, hE6⟩ := hEW
  obtain ⟨uA, uB, br, hA1, hB1, hO, ⟨huB, hne⟩, hso, hbr⟩ := fst_choice (d := 3) hTv hSS.2.2
  rw [← hso] at hE hE0 hE6
  have h22 : σ.2.2.2 b = t := by rw [kA.2.2.2.2.1]; exact hSS.1
  have hcap : 400 ≤ (σ.1 t 0).toInt := by rw [kA.2.2.1.2 0 (by omega)]; exact hSS.2.1
  obtain ⟨hfc, hsoA⟩ := hA1 σ kA.kta
  refine (a_fillIn (j := j) hb yR x8 row uA σ kA (r := 6 * q + r) (by omega) (by omega) hN (by omega) h8 hR0.1.1 h22 h1 hcap hfc hsoA hne hE hP.gA).mono (fun s hs => ?_)
  rcases hs with hs | ⟨hx4, s2, n, hn, g, es⟩
  · exact .inl hs
  · refine .inr ⟨hx4, ?_⟩
    refine (r_bfills f row x8 uB br kB (N := N) (by omega) (hB1 τ kB) hbr h46 hP.gB).mono (fun w hw => ?_)
    obtain ⟨τ1, gB, ew⟩ := hw
    obtain ⟨so, hso'⟩ : ∃ so, so = T.1 2 uB.toNatClampNeg := ⟨_, rfl⟩
    rw [← hso'] at g gB hE hE0 hE6 ew
    generalize hFL : vp_nar .boolean 1 = FL at es ew
    obtain ⟨many, hmany⟩ : ∃ many : Int32, many = (if so.toInt = 5 then T.1 19 N else 0) := ⟨_, rfl⟩
    rw [← hmany] at ew
    have hmt : n.toInt = many.toInt := by
      rw [hmany, hn]
      by_cases h5 : so.toInt = 5
      · rw [if_pos h5]
      · rw [if_neg h5]
        unfold EWR at hE
        rw [if_neg h5] at hE
        rw [hE.2.2]
        exact l0.symm
    have hE2 : EWR so.toInt (S.2.1 14 N) (T.2.1 17 N) (T.2.1 18 N) many := by
      unfold EWR at hE ⊢
      by_cases h5 : so.toInt = 5
      · rw [if_pos h5] at hE ⊢
        rw [hmany, if_pos h5]
        exact hE
      · rw [if_neg h5] at hE ⊢
        rw [hmany, if_neg h5]
        exact ⟨hE.1, hE.2.1, l0⟩
    have hlt := hP.lt
    have xA : XTA t e row.toInt (rA l1) (rA l2) σ s := by
      rw [es]
      exact (XTA.mk g SUA.set hlt.2.2.1 hlt.1).s5
    have xB : XTB e row.toInt (rB l1) (rB l2) τ w := by
      rw [ew]
      exact (XTB.mk gB SUB.set hlt.2.2.2.1 hlt.2.1).s27
    have sc : ∀ d, d ≠ t + 4 → d ≠ t + 5 → s.1 d = s2.1 d := fun d h4 h5 => by
      rw [es, stI_ne h5]
      exact stI_ne h4
    have wc : ∀ d, d ≠ 23 → d ≠ 27 → w.1 d = τ1.1 d := fun d h4 h5 => by
      rw [ew, stI_ne h5]
      exact stI_ne h4
    have a6 : s.2.1 (t + 6) e = S.2.1 14 N := by
      rw [es]
      show (stL (stI s2 (t + 4) e n) (t + 6) e (S.2.1 14 N)).2.1 (t + 6) e = _
      rw [stLA, upLA rfl]
    have a4 : s.1 (t + 4) e = n := by
      rw [es, stI_ne (by omega)]
      show (stI s2 (t + 4) e n).1 (t + 4) e = _
      rw [stI_at, upA rfl]
    have a5 : s.1 (t + 5) e = FL := by rw [es, stI_at, upA rfl]
    have b27 : w.1 27 e = FL := by rw [ew, stI_at, upA rfl]
    have b21 : w.2.1 21 e = T.2.1 17 N := by
      rw [ew]
      show (stL (stL τ1 21 e (T.2.1 17 N)) 22 e (T.2.1 18 N)).2.1 21 e = _
      rw [stL_ne (by omega), stLA, upLA rfl]
    have b22 : w.2.1 22 e = T.2.1 18 N := by
      rw [ew]
      show (stL (stL τ1 21 e (T.2.1 17 N)) 22 e (T.2.1 18 N)).2.1 22 e = _
      rw [stLA, upLA rfl]
    have b23 : w.1 23 e = many := by
      rw [ew, stI_ne (by omega)]
      show (stI (stL (stL τ1 21 e (T.2.1 17 N)) 22 e (T.2.1 18 N)) 23 e many).1 23 e = _
      rw [stI_at, upA rfl]
    have ks : KRA b t σ s := by
      rw [es]
      exact ((g.kra hb).trans (set_kra hb)).i (.inr (.inr (.inr ⟨by omega, by omega⟩)))
    have kw : KRB τ w := by
      rw [ew]
      exact (gB.krb.trans lfs_krb).i (by omega)
    have hRz : RPS b m s w := by
      have hR1 := hR0.lays gB
      unfold RPS at hR1 ⊢
      rw [sc b (by omega) (by omega), sc 38 (by omega) (by omega), wc 0 (by omega) (by omega), wc 34 (by omega) (by omega), g.1.1 b (by omega), g.1.1 38 (by omega)]
      exact hR1
    have hCz : RCX b t m S T s w (e + 1) := by
      refine ⟨⟨kA.trans ks, kB.trans kw⟩, hRz, ?_, ?_, by omega⟩
      · rw [sc t (by omega) (by omega), g.2.1]
        omega
      · rw [wc 0 (by omega) (by omega), gB.2.1]
        omega
    have b20 : w.1 20 e = so := by rw [wc 20 (by omega) (by omega)]; exact gB.2.2.1.1.1
    have b26 : w.1 26 e = br := by rw [wc 26 (by omega) (by omega)]; exact gB.2.2.1.2.2.1.1
    have a1 : s.1 (t + 1) e = so := by rw [sc _ (by omega) (by omega)]; exact g.2.2.1.1
    refine ⟨e + 1, hCz, by omega, ?_, ⟨⟨?_, ?_⟩, ⟨?_, ?_⟩, by rw [a5, b27]⟩, ⟨xA, xB⟩, fun i _ => ?_⟩
    · rw [show 32 - (L + 1) = (30 - L) + 1 by omega]
      refine ⟨⟨by show e < e + 1; omega, by show e < e + 1; omega⟩, uA, uB, ?_, ⟨⟨?_, ?_⟩, ?_⟩, fun h => ?_, fun h => ?_, fun h => ?_, fun h => ?_⟩
      · show OWN S T _ _ (w.1 26 e) uA uB
        rw [b26]
        exact hO
      · exact hso'.symm.trans b20.symm
      · exact a1.trans b20.symm
      · show 0 ≤ (w.1 20 e).toInt ∧ (w.1 20 e).toInt ≤ 7
        rw [b20]
        omega
      · refine ⟨?_, rfl⟩
        show LEAF t s w e e
        unfold LEAF
        rw [sc (t + 7) (by omega) (by omega), wc 28 (by omega) (by omega), b20, a6, b21, b22, b23, a4]
        exact ⟨⟨g.2.2.2.2.1.1, gB.2.2.2.2.1.1⟩, hE2, hmt⟩
      · have h : 6 ≤ (w.1 20 e).toInt := h
        rw [b20] at h
        show s.2.1 (t + 6) e = w.2.1 21 e ∧ w.2.1 22 e = 0
        unfold EWR at hE2
        rw [if_neg (by omega)] at hE2
        rw [a6, b21, b22]
        exact ⟨hE2.1, hE2.2.1⟩
      · have h : (w.1 20 e).toInt = 6 := h
        rw [b20] at h
        unfold EWR at hE2
        rw [if_neg (by omega)] at hE2
        refine ⟨[], rfl, by show 0 ≤ 200; omega, ?_, ⟨⟨⟨?_, ?_⟩, ?_, ?_⟩, ⟨List.Pairwise.nil, List.Pairwise.nil⟩, ⟨?_, ?_⟩, fun y hy => (by cases hy)⟩⟩
        · show (s.1 (t + 4) e).toInt = ((0 : Nat) : Int)
          rw [a4]
          omega
        · show (s.1 (t + 7) e).toInt = -1
          rw [sc (t + 7) (by omega) (by omega)]
          exact g.2.2.2.2.1.1
        · show (s.1 (t + 8) e).toInt = -1
          rw [sc (t + 8) (by omega) (by omega)]
          exact g.2.2.2.2.1.2
        · show (w.1 28 e).toInt = -1
          rw [wc 28 (by omega) (by omega)]
          exact gB.2.2.2.2.1.1
        · show (w.1 29 e).toInt = -1
          rw [wc 29 (by omega) (by omega)]
          exact gB.2.2.2.2.1.2
        · show (w.1 23 e).toInt = ((0 : Nat) : Int)
          rw [b23]
          omega
        · refine ⟨?_, rfl⟩
          show 0 + e < e + 1
          omega
      · have h : (w.1 20 e).toInt = 7 := h
        rw [b20] at h
        omega
    · rw [sc _ (by omega) (by omega)]
      exact g.2.2.1.2.1
    · rw [sc _ (by omega) (by omega)]
      exact g.2.2.1.2.2.1
    · rw [wc 24 (by omega) (by omega)]
      exact gB.2.2.1.2.1.1
    · rw [wc 25 (by omega) (by omega)]
      exact gB.2.2.1.2.1.2
    · rw [sc (b + 2) (by omega) (by omega), g.1.1 (b + 2) (by omega)]
