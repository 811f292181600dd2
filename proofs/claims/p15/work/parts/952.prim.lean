/-! bytes and numbers that are read, both sides -/
theorem li_1600' : (1600 : Int32).toInt = 1600 := by decide
/-- both read the same message, at one place; nothing has failed -/
def RPS (b m : Nat) (σ τ : ST) : Prop := (σ.1 b 7 = 0 ∧ (σ.1 b 4).toInt = m ∧ m < 4) ∧ (σ.1 b 5 = τ.1 0 64 ∧ σ.1 b 6 = τ.1 0 65) ∧ ((τ.1 0 63).toInt = 400 * (m : Int) ∧ 0 ≤ (τ.1 0 64).toInt ∧ (τ.1 0 64).toInt ≤ (τ.1 0 65).toInt ∧ (τ.1 0 65).toInt ≤ 400) ∧ ∀ i : Nat, (i : Int) < (τ.1 0 65).toInt → σ.1 38 (400 * m + i) = τ.1 34 (400 * m + i)
/-- only the place moved -/
def PMA (b : Nat) (σ s : ST) : Prop := (∀ c, c ≠ b → s.1 c = σ.1 c) ∧ (∀ i, i ≠ 5 → s.1 b i = σ.1 b i) ∧ s.2 = σ.2
def PMB (τ t : ST) : Prop := (∀ c, c ≠ 0 → t.1 c = τ.1 c) ∧ (∀ i, i ≠ 64 → i ≠ 72 → t.1 0 i = τ.1 0 i) ∧ (∀ c, c ≠ 0 → t.2.1 c = τ.2.1 c)
/-- and nothing else of the reference at all -/
def PMS (τ t : ST) : Prop := (∀ c, c ≠ 0 → t.1 c = τ.1 c) ∧ (∀ i, i ≠ 64 → t.1 0 i = τ.1 0 i) ∧ t.2 = τ.2
theorem PMS.wk {τ t : ST} (h : PMS τ t) : PMB τ t := ⟨h.1, fun i a _ => h.2.1 i a, fun c _ => by rw [h.2.2]⟩
theorem PMA.rf {b : Nat} {σ : ST} : PMA b σ σ := ⟨fun _ _ => rfl, fun _ _ => rfl, rfl⟩
theorem PMB.rf {τ : ST} : PMB τ τ := ⟨fun _ _ => rfl, fun _ _ _ => rfl, fun _ _ => rfl⟩
theorem PMA.trans {b : Nat} {σ s u : ST} (h : PMA b σ s) (k : PMA b s u) : PMA b σ u := ⟨fun c a => (k.1 c a).trans (h.1 c a), fun i a => (k.2.1 i a).trans (h.2.1 i a), k.2.2.trans h.2.2⟩
theorem PMB.trans {σ s u : ST} (h : PMB σ s) (k : PMB s u) : PMB σ u := ⟨fun c a => (k.1 c a).trans (h.1 c a), fun i a d => (k.2.1 i a d).trans (h.2.1 i a d), fun c a => (k.2.2 c a).trans (h.2.2 c a)⟩
theorem PMB.l {τ t : ST} {i : Nat} {v : Int64} (h : PMB τ t) : PMB τ (stL t 0 i v) := ⟨h.1, h.2.1, fun c hc => by rw [stL_ne hc]; exact h.2.2 c hc⟩
theorem PMB.i72 {τ t : ST} {v : Int32} (h : PMB τ t) : PMB τ (stI t 0 72 v) := ⟨fun c hc => by rw [stI_ne hc]; exact h.1 c hc, fun i a d => by rw [stI_at, upN d]; exact h.2.1 i a d, h.2.2⟩
theorem RPS.l {b m : Nat} {σ τ : ST} {i : Nat} {v : Int64} (h : RPS b m σ τ) : RPS b m σ (stL τ 0 i v) := h
theorem RPS.i72 {b m : Nat} {σ τ : ST} {v : Int32} (h : RPS b m σ τ) : RPS b m σ (stI τ 0 72 v) := by
  unfold RPS at h ⊢
  rw [stI_at, upN (by omega), upN (by omega), upN (by omega), stI_ne (by omega)]
  exact h
/-- it failed, on both sides; or it went well -/
def RDO (b m : Nat) (σ τ s t : ST) (ok : Int32) (P : Prop) : Prop := (¬ s.1 b 7 = 0 ∧ ok = 0) ∨ (ok = 1 ∧ RPS b m s t ∧ (PMA b σ s ∧ PMB τ t) ∧ P)
theorem RDO.to {b m : Nat} {σ τ σ' τ' s t : ST} {ok : Int32} {P : Prop} (h : RDO b m σ' τ' s t ok P) (a : PMA b σ σ') (c : PMB τ τ') : RDO b m σ τ s t ok P := by
  rcases h with h | ⟨h1, h2, ⟨h3, h4⟩, h5⟩
  · exact .inl h
  · exact .inr ⟨h1, h2, ⟨a.trans h3, c.trans h4⟩, h5⟩
theorem q_fails36 : ∀ (n : Nat) (x : Int32) (τ : ST), QT (f_X11_fails_36 n x τ) (fun q => q.1 = 0) := by
  intro n
  induction n with
  | zero => intro x τ; exact QT.none
  | succ n ih =>
    intro x τ
    rw [f_X11_fails_36]
    exact QT.ite (fun _ => QT.ret rfl) (fun _ => QT.grd (fun _ => ih _ _))
theorem q_fails (p0 p1 : Int32) (τ : ST) : QT (f_X11_fails p0 p1 τ) (fun q => q.1 = 0) := by
  unfold f_X11_fails f_X11_fails_23 f_X11_fails_31
  exact QT.ite (fun _ => q_fails36 _ _ _) (fun _ => QT.ite (fun _ => q_fails36 _ _ _) (fun _ => q_fails36 _ _ _))
/-- behind a failure the class stays failed -/
theorem a_failed {b t : Nat} (hb : BT b t) (p0 p1 : Int32) (σ : ST) (h0 : ¬ p0 = 0) : QT (f_X4_fail b t p0 p1 σ) (fun s => ¬ s.1 b 7 = 0) := by
  unfold f_X4_fail f_X4_fail_29
  refine QT.ite (fun _ => QT.ite (fun _ => QT.ret ?_) (fun _ => QT.ite (fun _ => QT.ret ?_) (fun _ => QT.ret ?_))) (fun h => QT.ret h)
  · rw [stI_at, upN (by omega), stI_at, upN (by omega), stI_at, upA rfl]
    exact h0
  · rw [stI_at, upN (by omega), stI_at, upN (by omega), stI_at, upA rfl]
    exact h0
  · rw [stI_at, upN (by omega), stI_at, upA rfl]
    exact h0
theorem KRA.nz {b t : Nat} {σ s : ST} (h : KRA b t σ s) (h7 : ¬ σ.1 b 7 = 0) : ¬ s.1 b 7 = 0 := h.2.2.2.2.2 h7
theorem rd_byte {b t m : Nat} (hb : BT b t) {σ τ : ST} (h : RPS b m σ τ) : QT (f_X4_takeByte b t σ) (fun q => QT (f_X11_nextByte τ) (fun w => ¬ q.2.1 b 7 = 0 ∧ w.1.toInt < 0 ∨ (w.1 = q.1 ∧ 0 ≤ q.1.toInt ∧ q.1.toInt ≤ 255) ∧ RPS b m q.2 w.2 ∧ PMA b σ q.2 ∧ PMS τ w.2)) := by
  obtain ⟨⟨h7, h4, hm⟩, ⟨h5, h6⟩, ⟨hf, p0, p1, p2⟩, hB⟩ := h
  have hb' := hb
  unfold BT at hb'
  have l0 := li_0
  have l1 := li_1
  have lm := li_m1
  have l400 := li_400
  have l1600 := li_1600'
  unfold f_X4_takeByte f_X11_nextByte
  rw [if_pos h7]
  obtain ⟨k, hk⟩ : ∃ k : Nat, (τ.1 0 64).toInt = k := ⟨_, (Int.toNat_of_nonneg p0).symm⟩
  refine QT.ilt (fun hlt => ?_) (fun hge => ?_)
  · rw [h5, h6] at hlt
    have e4 : (σ.1 b 4 * 400).toInt = 400 * (m : Int) := by
      rw [Int32.mul_comm]
      have := mlE (k := 400) (y := σ.1 b 4) 400 l400 (by omega) (by omega)
      omega
    have h5' : (σ.1 b 5).toInt = k := by rw [h5]; exact hk
    have ea := il_addE (x := σ.1 b 4 * 400) (y := σ.1 b 5) (by omega) (by omega)
    have na : (σ.1 b 4 * 400 + σ.1 b 5).toNatClampNeg = 400 * m + k := nC (by omega)
    have hbyte : f_X1_byteOf (σ.1 b 4) (σ.1 b 5) σ = some ((σ.1 38 (400 * m + k)) &&& 255, σ) := by
      unfold f_X1_byteOf
      rw [if_neg (fun h => by have := il_lt h; omega), if_neg (fun h => by have := il_le h; omega), if_pos ⟨by omega, by omega⟩, na]
    rw [hbyte, sbnd]
    dsimp only
    refine QT.ret ?_
    refine QT.ieq (fun e => by omega) (fun _ => ?_)
    have e1 := il_addE (x := τ.1 0 64) (y := 1) (by omega) (by omega)
    have f1 : ∀ v : Int32, (stI τ 0 64 v).1 0 63 = τ.1 0 63 := fun v => by rw [stI_at, upN (by omega)]
    have f2 : ∀ v : Int32, (stI τ 0 64 v).1 0 64 = v := fun v => by rw [stI_at, upA rfl]
    have f3 : ∀ v : Int32, (stI τ 0 64 v).1 34 = τ.1 34 := fun v => stI_ne (by omega)
    have f4 : ∀ v : Int32, (stI τ 0 64 v).1 0 65 = τ.1 0 65 := fun v => by rw [stI_at, upN (by omega)]
    rw [f1, f2, f3]
    have e2 := il_addE (x := τ.1 0 63) (y := τ.1 0 64 + 1) (by omega) (by omega)
    have e3 := il_subE (x := τ.1 0 63 + (τ.1 0 64 + 1)) (y := 1) (by omega) (by omega)
    have nb : (τ.1 0 63 + (τ.1 0 64 + 1) - 1).toNatClampNeg = 400 * m + k := nC (by omega)
    refine QT.grd (fun _ => QT.ret ?_)
    rw [nb]
    have hk' := hB k (by omega)
    have hr := and255 (σ.1 38 (400 * m + k))
    refine .inr ⟨⟨by dsimp only; rw [hk'], ?_, ?_⟩, ?_, ?_, ?_⟩
    · show 0 ≤ (σ.1 38 (400 * m + k) &&& 255).toInt
      omega
    · show (σ.1 38 (400 * m + k) &&& 255).toInt ≤ 255
      omega
    · have g1 : ∀ v : Int32, ∀ i, i ≠ 5 → (stI σ b 5 v).1 b i = σ.1 b i := fun v i hi => by rw [stI_at, upN hi]
      have g2 : ∀ v : Int32, (stI σ b 5 v).1 b 5 = v := fun v => by rw [stI_at, upA rfl]
      have g3 : ∀ v : Int32, (stI σ b 5 v).1 38 = σ.1 38 := fun v => stI_ne (by omega)
      unfold RPS
      dsimp only
      rw [g1 _ 7 (by omega), g1 _ 4 (by omega), g1 _ 6 (by omega), g2, g3, f1, f2, f3, f4]
      exact ⟨⟨h7, h4, hm⟩, ⟨by rw [h5], h6⟩, ⟨hf, by omega, by omega, p2⟩, hB⟩
    · exact ⟨fun c hc => stI_ne hc, fun i hi => by dsimp only; rw [stI_at, upN hi], rfl⟩
    · exact ⟨fun c hc => stI_ne hc, fun i hi => by dsimp only; rw [stI_at, upN hi], rfl⟩
  · rw [h5, h6] at hge
    refine QT.bnd (a_failed hb 11 (σ.1 b 6) σ (by decide)) (fun s hs => QT.ret ?_)
    refine QT.ieq (fun _ => ?_) (fun e => by omega)
    refine QT.bnd (q_fails 11 (τ.1 0 65) τ) (fun w hw => QT.ret (.inl ⟨hs, ?_⟩))
    dsimp only
    omega
/-- a byte that is asked for behind a failure -/
theorem ad_byte {b t : Nat} (hb : BT b t) {σ : ST} (h : ¬ σ.1 b 7 = 0) : QT (f_X4_takeByte b t σ) (fun q => ¬ q.2.1 b 7 = 0) := fun q e => by
  have k : KRA b t σ q.2 := wr_X4_takeByte (B0 := b) (T0 := t) (s := σ) rfl (KRA.rf hb) q e
  exact k.nz h
theorem ad_num5 {b t : Nat} (hb : BT b t) {σ : ST} (h : ¬ σ.1 b 7 = 0) (n : Nat) (x1 : Int32) (x2 : Int64) (x4 : Int32) : QT (f_X4_takeNumber_5 b t n x1 x2 x4 σ) (fun q => ¬ q.2.1 b 7 = 0) := fun q e => by
  have k : KRA b t σ q.2 := wr_X4_takeNumber_5 (B0 := b) (T0 := t) (s := σ) rfl _ _ _ _ _ (KRA.rf hb) q e
  exact k.nz h
theorem ad_num70 {b t : Nat} {σ : ST} (h : ¬ σ.1 b 7 = 0) (x2 : Int64) : QT (f_X4_takeNumber_70 b t x2 σ) (fun q => ¬ q.2.1 b 7 = 0) := by
  unfold f_X4_takeNumber_70
  exact QT.ite (fun e => absurd e h) (fun _ => QT.ret h)
theorem ad_num38 {b t : Nat} (hb : BT b t) {σ : ST} (h : ¬ σ.1 b 7 = 0) (n : Nat) (x1 : Int32) (x2 : Int64) (x4 x5 : Int32) : QT (f_X4_takeNumber_38 (f_X4_takeNumber_5 b t n) b t x1 x2 x4 x5 σ) (fun q => ¬ q.2.1 b 7 = 0) := by
  unfold f_X4_takeNumber_38
  exact QT.ite (fun _ => ad_num5 hb h _ _ _ _) (fun _ => ad_num70 h _)
theorem rd_num5 {b t m : Nat} (hb : BT b t) (x1 : Int32) : ∀ (n : Nat) (M : Nat) (x2 : Int64) (x4 : Int32) (σ τ : ST), RPS b m σ τ → 0 ≤ x4.toInt → x4.toInt ≤ 9 → QT (f_X4_takeNumber_5 b t n x1 x2 x4 σ) (fun q => QT (f_X11_readsNumber_5 M x1 x2 x4 τ) (fun w => RDO b m σ τ q.2 w.2 w.1 (w.2.2.1 0 70 = q.1))) := by
  have l0 := li_0
  have l1 := li_1
  have l9 := li_9
  have l10 := li_10
  have l128 := li_128
  intro n
  induction n with
  | zero =>
    intro M x2 x4 σ τ _ _ _
    rw [f_X4_takeNumber_5]
    exact QT.none
  | succ n ih =>
    intro M x2 x4 σ τ h h0 h9
    cases M with
    | zero =>
      refine fun q _ => ?_
      rw [f_X11_readsNumber_5]
      exact QT.none
    | succ M =>
      rw [f_X4_takeNumber_5, f_X11_readsNumber_5]
      refine QT.ile (fun h => by omega) (fun _ => ?_)
      refine QT.sw ?_
      refine QT.ile (fun h => by omega) (fun _ => ?_)
      refine QT.sw ?_
      refine QT.bnd2 (rd_byte hb h) (fun q w hqw => ?_)
      rcases hqw with ⟨f1, f2⟩ | ⟨⟨e1, e2, e3⟩, hR, hA, hB⟩
      · have fin : ∀ z : Int64 × ST, ¬ z.2.1 b 7 = 0 → QT (if 0 ≤ w.1 then (if x4 = 9 then (if w.1 ≤ 1 then (f_X11_readsNumber_46 (f_X11_readsNumber_5 M) x1 x2 x4 w.1 w.2) else ((f_X11_fails 12 x1 w.2).bind fun q3 => if q3.1 = 0 ∨ q3.1 = 1 then some (q3.1, q3.2) else none)) else (f_X11_readsNumber_46 (f_X11_readsNumber_5 M) x1 x2 x4 w.1 w.2)) else (some (0, w.2))) (fun v => RDO b m σ τ z.2 v.2 v.1 (v.2.2.1 0 70 = z.1)) := fun z hz => by
          refine QT.ile (fun h => by omega) (fun _ => QT.ret (.inl ⟨hz, rfl⟩))
        refine QT.mono (P := fun z => ¬ z.2.1 b 7 = 0) ?_ fin
        refine QT.ite (fun _ => QT.ite (fun _ => ad_num38 hb f1 _ _ _ _ _) (fun _ => ?_)) (fun _ => ad_num38 hb f1 _ _ _ _ _)
        refine QT.bnd (a_failed hb 12 x1 q.2 (by decide)) (fun s hs => ?_)
        exact ad_num38 hb hs _ _ _ _ _
      · have e127 : (q.1 &&& 127).toInt64 = q.1.toInt64 &&& 127 := by
          rw [Int32.toInt64_and]
          rfl
        have go : x4.toInt ≤ 8 ∨ q.1.toInt ≤ 1 → QT (f_X4_takeNumber_38 (f_X4_takeNumber_5 b t n) b t x1 x2 x4 q.1 q.2) (fun z => QT (f_X11_readsNumber_46 (f_X11_readsNumber_5 M) x1 x2 x4 w.1 w.2) (fun v => RDO b m σ τ z.2 v.2 v.1 (v.2.2.1 0 70 = z.1))) := fun hc => by
          unfold f_X4_takeNumber_38 f_X11_readsNumber_46 f_X4_takeNumber_70
          rw [e1, e127]
          refine QT.ile (fun hle => ?_) (fun hlt => ?_)
          · refine QT.sw ?_
            refine QT.ile (fun _ => ?_) (fun h => by omega)
            refine QT.sw ?_
            have e4 := il_addE (x := x4) (y := 1) (by omega) (by omega)
            exact (ih M _ (x4 + 1) q.2 w.2 hR (by omega) (by omega)).mono2 (fun z v hz => hz.to hA hB.wk)
          · refine QT.ite (fun _ => QT.ret ?_) (fun h => absurd hR.1.1 h)
            refine QT.ile (fun h => by omega) (fun _ => ?_)
            refine QT.lt (fun z ez => QT.ret ?_)
            subst ez
            refine .inr ⟨rfl, hR.l, ⟨hA, hB.wk.l⟩, ?_⟩
            exact stL_at
        refine QT.ieq (fun h9 => ?_) (fun h9 => ?_)
        · refine QT.ile (fun hle => ?_) (fun hgt => ?_)
          · refine QT.sw ?_
            refine QT.ile (fun _ => ?_) (fun h => by rw [e1] at h; omega)
            refine QT.ieq (fun _ => ?_) (fun h => absurd h9 h)
            refine QT.ile (fun _ => ?_) (fun h => by rw [e1] at h; omega)
            refine QT.sw ?_
            exact go (.inr (by omega))
          · refine QT.mono (P := fun z => ¬ z.2.1 b 7 = 0) (QT.bnd (a_failed hb 12 x1 q.2 (by decide)) (fun s hs => ad_num38 hb hs _ _ _ _ _)) (fun z hz => ?_)
            refine QT.ile (fun _ => ?_) (fun h => by rw [e1] at h; omega)
            refine QT.ieq (fun _ => ?_) (fun h => absurd h9 h)
            refine QT.ile (fun h => by rw [e1] at h; omega) (fun _ => ?_)
            exact QT.bnd (q_fails 12 x1 w.2) (fun v hv => QT.grd (fun _ => QT.ret (.inl ⟨hz, hv⟩)))
        · refine QT.sw ?_
          refine QT.ile (fun _ => ?_) (fun h => by rw [e1] at h; omega)
          refine QT.ieq (fun h => absurd h h9) (fun _ => ?_)
          refine QT.sw ?_
          exact go (.inl (by omega))
theorem rd_number {b t m : Nat} (hb : BT b t) (p0 : Int32) (σ τ : ST) (h : RPS b m σ τ) : QT (f_X4_takeNumber b t p0 σ) (fun q => QT (f_X11_readsNumber p0 τ) (fun w => RDO b m σ τ q.2 w.2 w.1 (w.2.2.1 0 70 = q.1))) := by
  have l0 := li_0
  unfold f_X4_takeNumber f_X11_readsNumber
  exact rd_num5 hb p0 FU FU 0 0 σ τ h (by omega) (by omega)
/-- a count: whole, from 0 on -/
theorem rd_count {b t m : Nat} (hb : BT b t) (p0 p1 : Int32) (mx : Int64) (hmx : p1.toInt64 = mx) (σ τ : ST) (h : RPS b m σ τ) : QT (f_X4_takeCount b t p0 p1 σ) (fun q => QT (f_X11_readsInt p0 0 mx τ) (fun w => RDO b m σ τ q.2 w.2 w.1 (q.1 = (w.2.2.1 0 70).toInt32 ∧ 0 ≤ (w.2.2.1 0 70).toInt ∧ (w.2.2.1 0 70).toInt ≤ mx.toInt))) := by
  have l0 := li_0
  unfold f_X4_takeCount f_X11_readsInt
  rw [hmx]
  refine QT.bnd2 (rd_number hb p0 σ τ h) (fun q w hqw => ?_)
  rcases hqw with ⟨f1, f2⟩ | ⟨e0, hR, ⟨hA, hB⟩, e70⟩
  · refine QT.mono (P := fun z => ¬ z.2.1 b 7 = 0) ?_ (fun z hz => ?_)
    · have k26 : ∀ s : ST, ¬ s.1 b 7 = 0 → QT (f_X4_takeCount_26 b t q.1 s) (fun z => ¬ z.2.1 b 7 = 0) := fun s hs => by
        unfold f_X4_takeCount_26
        exact QT.ite (fun e => absurd e hs) (fun _ => QT.ret hs)
      have k19 : QT (f_X4_takeCount_19 b t p0 q.1 q.2) (fun z => ¬ z.2.1 b 7 = 0) := by
        unfold f_X4_takeCount_19
        exact QT.bnd (a_failed hb 12 p0 q.2 (by decide)) (fun s hs => k26 s hs)
      exact QT.ite (fun _ => k19) (fun _ => QT.ite (fun _ => k26 _ f1) (fun _ => k19))
    · refine QT.ite (fun _ => QT.ret (.inl ⟨hz, rfl⟩)) (fun h => absurd f2 h)
  · have bad : QT (f_X4_takeCount_19 b t p0 q.1 q.2) (fun z => ¬ z.2.1 b 7 = 0) := by
      unfold f_X4_takeCount_19 f_X4_takeCount_26
      exact QT.bnd (a_failed hb 12 p0 q.2 (by decide)) (fun s hs => QT.ite (fun e => absurd e hs) (fun _ => QT.ret hs))
    have badB : ∀ z : Int32 × ST, ¬ z.2.1 b 7 = 0 → QT ((f_X11_fails 12 p0 w.2).bind fun q5 => if q5.1 = 0 then (some (0, q5.2)) else (f_X11_readsInt_31 q5.2)) (fun v => RDO b m σ τ z.2 v.2 v.1 (z.1 = (v.2.2.1 0 70).toInt32 ∧ 0 ≤ (v.2.2.1 0 70).toInt ∧ (v.2.2.1 0 70).toInt ≤ mx.toInt)) := fun z hz => QT.bnd (q_fails 12 p0 w.2) (fun v hv => QT.ite (fun _ => QT.ret (.inl ⟨hz, rfl⟩)) (fun h => absurd hv h))
    have ne0 : ¬ w.1 = 0 := by rw [e0]; decide
    have hwi : ∀ Q : Int32 × ST → Option (Int32 × ST), ∀ P : Int32 × ST → Prop, ((lg_cmp q.1 0).toInt < (0 : Int32).toInt → QT (Q (0, w.2)) P) → ((0 : Int32).toInt ≤ (lg_cmp q.1 0).toInt → (0 : Int32).toInt < (lg_cmp q.1 mx).toInt → QT (Q (0, w.2)) P) → ((0 : Int32).toInt ≤ (lg_cmp q.1 0).toInt → (lg_cmp q.1 mx).toInt ≤ (0 : Int32).toInt → QT (Q (1, w.2)) P) → QT ((f_X11_within (w.2.2.1 0 70) 0 mx w.2).bind Q) P := fun Q P h1 h2 h3 => by
      unfold f_X11_within
      rw [e70]
      by_cases c1 : lg_cmp q.1 0 < 0
      · rw [if_pos c1, sbnd]
        exact h1 (il_lt c1)
      · rw [if_neg c1]
        by_cases c2 : 0 < lg_cmp q.1 mx
        · rw [if_pos c2, sbnd]
          exact h2 (il_nlt c1) (il_lt c2)
        · rw [if_neg c2, sbnd]
          exact h3 (il_nlt c1) (il_nlt c2)
    refine QT.ilt (fun c1 => bad.mono (fun z hz => ?_)) (fun c1 => QT.ile (fun c2 => ?_) (fun c2 => bad.mono (fun z hz => ?_)))
    · refine QT.ite (fun h => absurd h ne0) (fun _ => ?_)
      exact hwi _ _ (fun _ => QT.ite (fun _ => badB z hz) (fun h => absurd rfl h)) (fun h => by omega) (fun h => by omega)
    · unfold f_X4_takeCount_26
      refine QT.ite (fun _ => QT.ret ?_) (fun h => absurd hR.1.1 h)
      refine QT.ite (fun h => absurd h ne0) (fun _ => ?_)
      refine hwi _ _ (fun h => by omega) (fun _ h => by omega) (fun _ _ => ?_)
      refine QT.ite (fun h => absurd h one_ne) (fun _ => ?_)
      unfold f_X11_readsInt_31
      refine QT.ret (.inr ⟨rfl, hR, ⟨hA, hB⟩, ?_⟩)
      dsimp only
      rw [e70]
      have g1 := lgc_ge c1
      have g2 := lgc_le c2
      have z0 : (0 : Int64).toInt = 0 := by decide
      exact ⟨rfl, by omega, g2⟩
    · refine QT.ite (fun h => absurd h ne0) (fun _ => ?_)
      exact hwi _ _ (fun h => by omega) (fun _ _ => QT.ite (fun _ => badB z hz) (fun h => absurd rfl h)) (fun _ h => by omega)
