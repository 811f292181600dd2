/-! a whole message read: its root, both sides -/
theorem r_rootT {b t : Nat} {S T : ST} {rT rF rL rO rR : FTK} {rb : FRD} {x y : Int32} {J : ST → Int32 × ST → Prop} {s0 : Int32} (hs : f_X5_sortOf 4 x S = some (s0, S)) (h8 : ¬ s0.toInt = 8) (hy : ¬ y = -1) (hO : QT (rO b t x y (-1) 0 0 S) (fun s => QT (rb 799 799 0 (-1) 0 T) (J s))) : QT (f_X4_take rT rF rL rO rR b t x y (-1) 0 0 S) (fun s => QT (rb 799 799 0 (-1) 0 T) (J s)) := by
  have l0 := li_0
  have l8 := li_8
  have l31 : (31 : Int32).toInt = 31 := by decide
  unfold f_X4_take
  refine QT.ilt (fun _ => ?_) (fun h31 => by omega)
  refine QT.ite (fun h => absurd h hy) (fun _ => ?_)
  unfold f_X4_take_34
  rw [hs, sbnd]
  dsimp only
  refine QT.ieq (fun h => by omega) (fun _ => ?_)
  exact QT.bnd hO (fun s hs => QT.ret hs)
theorem r_rootO {b t m p q : Nat} {S T : ST} {rT rF rL rO rR : FTK} {rb : FRD} {rI rS : FRI} (hS : RST p q S T) (hSS : RSS b t S) (hLN : cLSN b t m p q S T rL rI) (hRN : cRCN b t m p q S T rR rS) (hfL : cFUL b t rL) (hfR : cFUL b t rR) {x y : Int32} (hG : TG p (T.1 8 p).toInt S T 0 x 799) (hH : TG q (T.1 8 q).toInt S T 0 y 799) (h7 : (T.1 2 799).toInt = 7) (hM : MS T 799 799) (hC : RCX b t m S T S T 0) : QT (f_X4_takeOwn rT rF rL rO rR b t x y (-1) 0 0 S) (fun s => QT (f_X11_reads rb rI rS 799 799 0 (-1) 0 T) (ROUT b (RVP b t m q 0 S T y 799 0 (-1) 0 [] [] S T) s)) := by
  have l8 := li_8
  have l0 := li_0
  have lm := li_m1
  have l31 : (31 : Int32).toInt = 31 := by decide
  have l799 : (799 : Int32).toInt = 799 := by decide
  have n799 : (799 : Int32).toNatClampNeg = 799 := by decide
  have hn := hSS.2.2
  have hb := hC.1.1.1
  obtain ⟨hsY, _⟩ := hH.rA hn (KRA.rf hb).kta
  unfold f_X4_takeOwn f_X11_reads
  rw [hsY, sbnd]
  dsimp only
  refine QT.sw ?_
  refine QT.ilt (fun _ => ?_) (fun h => by omega)
  refine QT.grd (fun _ => ?_)
  rw [n799]
  refine QT.ieq (fun h => by omega) (fun _ => ?_)
  refine QT.ilt (fun h => by omega) (fun _ => ?_)
  refine QT.grd (fun _ => ?_)
  refine QT.ieq (fun hv8 => by omega) (fun hv8 => ?_)
  have hv8' : ¬ (T.1 2 (799 : Int32).toNatClampNeg).toInt = 8 := by rw [n799]; omega
  unfold f_X11_reads_157 f_X11_reads_158
  refine QT.ile (fun h => by omega) (fun _ => ?_)
  refine QT.sw ?_
  refine QT.ite (fun h => absurd (by rw [h]) hv8) (fun _ => ?_)
  exact r_own_n hS hSS hLN hRN hfL hfR (L := 0) (by omega) x 799 0 (-1) 0 y 799 y 799 (-1) l0 hG (by omega) hv8' hH (by omega) hv8' hM (.inl ⟨lm, rfl, rfl, hv8'⟩) S T hC (.inl ⟨⟨lm, lm⟩, rfl, rfl, l0⟩)
theorem r_root {b t m p q : Nat} {S T : ST} (hb : BT b t) (hS : RST p q S T) (hSS : RSS b t S) (hX : EHX S) (h7 : (T.1 2 799).toInt = 7) (h3 : (T.1 3 799).toInt = 0) (hpair : ¬ T.1 35 0 = 0) (hC : RCX b t m S T S T 0) (N M : Nat) : QT ((R_X4_take (N + 2)).1 b t (S.1 6 p) (S.1 6 q) (-1) 0 0 S) (fun s => QT ((R_X11_reads (M + 1)).1 799 799 0 (-1) 0 T) (ROUT b (RVP b t m q 0 S T (S.1 6 q) 799 0 (-1) 0 [] [] S T) s)) := by
  have l0 := li_0
  have l8 := li_8
  have lm := li_m1
  have n799 : (799 : Int32).toNatClampNeg = 799 := by decide
  have hG := hS.1.2.2.1.1.tg hS.1.1.1 h7 h3
  have hH := hS.1.2.2.1.2.tg hS.1.1.2 h7 h3
  obtain ⟨hsX, _⟩ := hG.rA hSS.2.2 (KRA.rf hb).kta
  have hy : ¬ S.1 6 q = -1 := fun h => by
    have := hH.1.1.1
    rw [h] at this
    omega
  have hM : MS T 799 799 := by
    refine MT.iff.mpr (.inr (.inr ⟨?_, ?_, .inr (.inl ⟨?_, ?_, ?_⟩)⟩))
    · rw [n799]; omega
    · rw [n799]; omega
    · rw [n799]; exact h7
    · rw [n799]; exact h7
    · rw [n799]
      have e0 : (T.1 3 799).toNatClampNeg = 0 := nC h3
      rw [e0]
      exact hpair
  have k := ck (m := m) hb hS hSS hX N
  rw [n799] at hsX
  exact r_rootT hsX (by omega) hy (r_rootO hS hSS (k.2.2.1 M).2 (k.2.2.2.2.1 M).2 k.2.2.2.2.2.1 k.2.2.2.2.2.2 hG hH h7 hM hC)
