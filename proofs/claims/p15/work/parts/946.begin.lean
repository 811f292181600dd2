/-! a text begins: both sides -/
def BGN (σ τ a b : ST) : Prop := (LX a b ∧ TWX a b) ∧ ((∀ c, c ≠ 2 → a.1 c = σ.1 c) ∧ (∀ c, c ≠ 2 → a.2.1 c = σ.2.1 c) ∧ a.2.2 = σ.2.2) ∧ (∀ c, c ≠ 0 → b.1 c = τ.1 c) ∧ ∀ i, i ∉ [2, 3, 4, 5, 6, 8, 10, 12, 13] → b.1 0 i = τ.1 0 i
theorem ab_begin (p0 : Int32) (σ τ : ST) (h1 : σ.1 1 = τ.1 1) (hT8 : ∀ i, bI (τ.1 1 i) (-128) 127) (hkw : σ.2.1 3 = kw0) (hp : 0 ≤ p0.toInt ∧ p0.toInt ≤ 1000) : QT (f_X6_begin p0 σ) (fun a => QT (f_X11_begins p0 τ) (fun b => BGN σ τ a b ∧ (uT b : Int) ≤ p0.toInt)) := by
  have l0 := li_0
  intro s1 e1 t et
  obtain ⟨t', et', ct, tx, tu, t2, t3, t12, s, hsk, hTB⟩ := b_begins p0 τ hp
  have e9 : t = t' := Option.some.inj (et.symm.trans et')
  subst e9
  unfold f_X6_begin at e1
  have a9 : (stI (stI (stI (stI σ 2 2 p0) 2 3 0) 2 12 0) 2 13 0).1 2 = upd (upd (upd (upd (σ.1 2) 2 p0) 3 0) 12 0) 13 0 := rfl
  have a1 : ∀ c, c ≠ 2 → (stI (stI (stI (stI σ 2 2 p0) 2 3 0) 2 12 0) 2 13 0).1 c = σ.1 c := fun c hc => by rw [stI_ne hc, stI_ne hc, stI_ne hc, stI_ne hc]
  have a2 : (stI (stI (stI (stI σ 2 2 p0) 2 3 0) 2 12 0) 2 13 0).1 2 2 = p0 := by rw [a9, upd_no (by decide), upd_no (by decide), upd_no (by decide), upd_at]
  have a3 : (stI (stI (stI (stI σ 2 2 p0) 2 3 0) 2 12 0) 2 13 0).1 2 3 = 0 := by rw [a9, upd_no (by decide), upd_no (by decide), upd_at]
  have aL : (stI (stI (stI (stI σ 2 2 p0) 2 3 0) 2 12 0) 2 13 0).2 = σ.2 := rfl
  clear a9
  generalize stI (stI (stI (stI σ 2 2 p0) 2 3 0) 2 12 0) 2 13 0 = u at a1 a2 a3 aL e1
  have hT8u : ∀ i, bI (u.1 1 i) (-128) 127 := by rw [a1 1 (by decide), h1]; exact hT8
  obtain ⟨u9, eu, ca, s', hs', hTA⟩ := a_advance u 0 hT8u (by rw [a2]; exact hp) (by rw [a3]; exact l0) (by omega)
  obtain ⟨sA, hWA, hsA⟩ := pa_advance u 0 hT8u (by rw [a2]; exact hp) (by rw [a3]; exact l0) (by omega) u9 eu
  rw [eu, sbnd] at e1
  cases e1
  -- the reference's token, as it is worth
  have hB : ∃ sB : Nat, TWB (τ.1 1) p0.toInt sB t ∧ (t.1 0 4).toInt = sB := by
    have e2 := et
    unfold f_X11_begins at e2
    have b9 : (stI (stI (stI (stI τ 0 3 p0) 0 2 0) 0 5 0) 0 12 0).1 0 = upd (upd (upd (upd (τ.1 0) 3 p0) 2 0) 5 0) 12 0 := rfl
    have b1 : (stI (stI (stI (stI τ 0 3 p0) 0 2 0) 0 5 0) 0 12 0).1 1 = τ.1 1 := by rw [stI_ne (by omega), stI_ne (by omega), stI_ne (by omega), stI_ne (by omega)]
    have b3 : (stI (stI (stI (stI τ 0 3 p0) 0 2 0) 0 5 0) 0 12 0).1 0 3 = p0 := by rw [b9, upd_no (by decide), upd_no (by decide), upd_no (by decide), upd_at]
    have b5 : (stI (stI (stI (stI τ 0 3 p0) 0 2 0) 0 5 0) 0 12 0).1 0 5 = 0 := by rw [b9, upd_no (by decide), upd_at]
    clear b9
    generalize stI (stI (stI (stI τ 0 3 p0) 0 2 0) 0 5 0) 0 12 0 = w at b1 b3 b5 e2
    obtain ⟨z, ez, ez2⟩ := bnd_some e2
    have ez3 : z = t := Option.some.inj ez2
    subst ez3
    have h9 := pb_go w 0 (by rw [b3]; exact hp) (by rw [b5]; exact l0) (by omega) z ez
    rw [b1, b3] at h9
    exact h9
  rw [a1 1 (by decide), a2, h1] at hs' hTA hWA
  have es : s' = s := hs'.uniq hsk
  subst es
  have t1 : t.1 1 = τ.1 1 := ct.1 1 (by decide) (by decide)
  have hkw9 : s1.2.1 3 = kw0 := by rw [ca.2.2.1 3 (by decide), aL]; exact hkw
  have hK : TK s1 t := TK.mk hT8 hkw9 t1 (by rw [t3]) hTA hTB
  have hX : LX s1 t := by
    refine ⟨⟨?_, ?_, ?_, hkw9⟩, ?_, hK, 0, s', by omega, ?_, ?_⟩
    · rw [ca.1 1 (by decide), a1 1 (by decide), h1, t1]
    · rw [ca.2.1, a2, t3]
    · rw [t1]
      exact hT8
    · rw [t3]
      exact hp
    · rw [t1, t3]
      exact hsk
    · rw [t1, t3]
      exact hTB
  obtain ⟨sB, hWB, hsB⟩ := hB
  have eAB : sA = sB := by
    have := hK.1
    omega
  subst eAB
  have hW : TWX s1 t := TWX.mk hX hsB (by rw [t1, t3]; exact hWA) (by rw [t1, t3]; exact hWB)
  refine ⟨⟨⟨hX, hW⟩, ⟨fun c hc => (ca.1 c hc).trans (a1 c hc), fun c hc => (ca.2.2.1 c hc).trans (by rw [aL]), ca.2.2.2.trans (by rw [aL])⟩, fun c hc => ct.1 c hc (by simp), fun i hi => ct.2.1 i hi⟩, by omega⟩
/-! messages -/
/-- both hold the same messages -/
def MSG (σ τ : ST) : Prop := ∀ m : Nat, m < 4 → σ.1 40 m = τ.1 32 m ∧ (¬ (τ.1 32 m).toInt = -1 → σ.1 39 m = τ.1 33 m ∧ (0 ≤ (τ.1 33 m).toInt ∧ (τ.1 33 m).toInt ≤ 400) ∧ ∀ i : Nat, (i : Int) < (τ.1 33 m).toInt → σ.1 38 (400 * m + i) = τ.1 34 (400 * m + i))
theorem MSG.eq {σ τ s t : ST} (h : MSG σ τ) (a1 : s.1 38 = σ.1 38) (a2 : s.1 39 = σ.1 39) (a3 : s.1 40 = σ.1 40) (b1 : t.1 32 = τ.1 32) (b2 : t.1 33 = τ.1 33) (b3 : t.1 34 = τ.1 34) : MSG s t := by
  intro m hm
  rw [a1, a2, a3, b1, b2, b3]
  exact h m hm
theorem nar_byte {v : Int32} (h : bI v (-128) 127) : vp_nar .byte v = v := by
  obtain ⟨h1, h2⟩ := h
  show v.toInt8.toInt32 = v
  refine Int32.toInt_inj.mp ?_
  rw [Int8.toInt_toInt32, Int32.toInt_toInt8]
  exact Int.bmod_eq_of_le (by omega) (by omega)
theorem fits_byt {x : Int32} (h : fits .byte (.int x) = true) : bI x (-128) 127 := by
  unfold fits at h
  simp only [decide_eq_true_eq, Bool.and_eq_true] at h
  exact ⟨Int32.le_iff_toInt_le.mp h.1, Int32.le_iff_toInt_le.mp h.2⟩
theorem b_becomes19 (p0 : Int32) (τ : ST) {m : Nat} (h0 : p0.toInt = m) (hm : m < 4) (hN : 0 ≤ (τ.1 0 48).toInt ∧ (τ.1 0 48).toInt ≤ 400) : ∀ (n k : Nat) (x3 : Int32) (σ : ST), x3.toInt = k → (∀ c, c ≠ 34 → σ.1 c = τ.1 c) → (∀ j, σ.1 34 j = if 400 * m ≤ j ∧ j < 400 * m + k then vp_nar .byte (τ.1 31 (j - 400 * m)) else τ.1 34 j) → (k : Int) ≤ (τ.1 0 48).toInt → QT (f_X11_becomes_19 n p0 x3 σ) (fun t => (∀ c, c ≠ 34 → t.1 c = τ.1 c) ∧ ∀ j, t.1 34 j = if 400 * m ≤ j ∧ j < 400 * m + (τ.1 0 48).toInt.toNat then vp_nar .byte (τ.1 31 (j - 400 * m)) else τ.1 34 j) := by
  have l1 := li_1
  have l400 := li_400
  intro n
  induction n with
  | zero =>
    intro k x3 σ _ _ _ _
    rw [f_X11_becomes_19]
    exact QT.none
  | succ n ih =>
    intro k x3 σ h3 hc h34 hk
    rw [f_X11_becomes_19]
    rw [hc 0 (by omega), hc 31 (by omega)]
    refine QT.ile (fun hle => QT.ret ⟨hc, fun j => ?_⟩) (fun hlt => ?_)
    · rw [h34 j, show (τ.1 0 48).toInt.toNat = k by omega]
    · refine QT.grd (fun _ => QT.grd (fun _ => ?_))
      have e1 := mlE (k := 400) (y := p0) 400 l400 (by omega) (by omega)
      have e2 := il_addE (x := 400 * p0) (y := x3) (by omega) (by omega)
      have n2 : ((400 * p0) + x3).toNatClampNeg = 400 * m + k := nC (by omega)
      have n3 : x3.toNatClampNeg = k := nC h3
      have e3 := il_addE (x := x3) (y := 1) (by omega) (by omega)
      rw [n2, n3]
      refine ih (k + 1) (x3 + 1) _ (by omega) (fun c hc9 => by rw [stI_ne hc9]; exact hc c hc9) (fun j => ?_) (by omega)
      rw [stI_at]
      by_cases ej : j = 400 * m + k
      · rw [upA ej, if_pos (by omega), show j - 400 * m = k by omega]
      · rw [upN ej, h34 j]
        by_cases h9 : 400 * m ≤ j ∧ j < 400 * m + k
        · rw [if_pos h9, if_pos (by omega)]
        · rw [if_neg h9, if_neg (by omega)]
/-- a message is another one: both sides -/
theorem ab_store (p0 p1 : Int32) (σ τ : ST) (hM : MSG σ τ) (hK : PKR σ τ) (h49 : τ.1 0 49 = 0) : QT (f_X1_store p0 p1 σ) (fun s => QT (f_X11_becomes p0 p1 τ) (fun t => MSG s t)) := by
  have l0 := li_0
  have l400 := li_400
  obtain ⟨⟨hN0, hN4⟩, hK⟩ := hK
  rcases hK with ⟨_, hsz, hby⟩ | ⟨h9, _⟩
  rotate_left
  · exact absurd h49 h9
  have esz : σ.1 87 2 = τ.1 0 48 := Int32.toInt_inj.mp hsz
  unfold f_X1_store f_X11_becomes
  refine QT.sw ?_
  refine QT.grd (fun hp => ?_)
  refine QT.sw ?_
  obtain ⟨m, hm⟩ : ∃ m : Nat, p0.toInt = m := ⟨p0.toInt.toNat, by omega⟩
  have nm : p0.toNatClampNeg = m := nC hm
  have hm4 : m < 4 := by omega
  refine QT.bndR (k2_isNumber p0 σ) (fun v hv => ?_)
  dsimp only
  refine QT.ieq (fun h => by omega) (fun _ => ?_)
  refine QT.ilt (fun h => by omega) (fun _ => QT.grd (fun hgd => ?_))
  refine QT.lt (fun z3 hz3 => QT.grd (fun _ => QT.ret ?_))
  rw [nm]
  refine QT.lt (fun z2 hz2 => ?_)
  have e1 := mlE (k := 400) (y := p0) 400 l400 (by omega) (by omega)
  have e1' : (p0 * 400).toInt = 400 * (m : Int) := by
    rw [Int32.mul_comm]
    omega
  have n4 : (p0 * 400).toNatClampNeg = 400 * m := nC (by omega)
  have n0 : (0 : Int32).toNatClampNeg = 0 := by decide
  have z2c : ∀ c, c ≠ 32 → c ≠ 33 → z2.1 c = τ.1 c := fun c h1 h2 => by rw [hz2, stI_ne h2, stI_ne h1]
  have z232 : z2.1 32 = upd (τ.1 32) m p1 := by rw [hz2, stI_ne (by omega), stI_at]
  have z233 : z2.1 33 = upd (τ.1 33) m (τ.1 0 48) := by
    rw [hz2, stI_at, stI_ne (by omega), stI_ne (by omega)]
  have z20 : z2.1 0 = τ.1 0 := z2c 0 (by omega) (by omega)
  have z48 : 0 ≤ (z2.1 0 48).toInt ∧ (z2.1 0 48).toInt ≤ 400 := by rw [z20]; omega
  refine (b_becomes19 p0 z2 hm hm4 z48 FU 0 0 z2 l0 (fun _ _ => rfl) (fun j => by rw [if_neg (by omega)]) (by omega)).mono (fun t ht => ?_)
  obtain ⟨t1, t34⟩ := ht
  rw [z20, z2c 31 (by omega) (by omega), z2c 34 (by omega) (by omega)] at t34
  have nsz : (σ.1 87 2).toNatClampNeg = (τ.1 0 48).toInt.toNat := by rw [esz]; rfl
  have z338 : z3.1 38 = va_cpy (σ.1 88) (σ.1 38) 0 (400 * m) (τ.1 0 48).toInt.toNat := by
    rw [hz3, n0, n4, nsz]
    rfl
  have z3c : ∀ c, c ≠ 38 → z3.1 c = σ.1 c := fun c hc => by rw [hz3]; exact stF_ne5 hc
  intro k hk
  have t32 : t.1 32 = upd (τ.1 32) m p1 := by rw [t1 32 (by omega), z232]
  have t33 : t.1 33 = upd (τ.1 33) m (τ.1 0 48) := by rw [t1 33 (by omega), z233]
  have s40 : (stI (stI z3 39 m (z3.1 87 2)) 40 m p1).1 40 = upd (σ.1 40) m p1 := by
    rw [stI_at, stI_ne (by omega), z3c 40 (by omega)]
  have s39 : (stI (stI z3 39 m (z3.1 87 2)) 40 m p1).1 39 = upd (σ.1 39) m (τ.1 0 48) := by
    rw [stI_ne (by omega), stI_at, z3c 39 (by omega), z3c 87 (by omega), esz]
  have s38 : (stI (stI z3 39 m (z3.1 87 2)) 40 m p1).1 38 = va_cpy (σ.1 88) (σ.1 38) 0 (400 * m) (τ.1 0 48).toInt.toNat := by
    rw [stI_ne (by omega), stI_ne (by omega), z338]
  rw [s40, s39, s38, t32, t33]
  by_cases ek : k = m
  · subst ek
    rw [upA rfl, upA rfl, upA rfl, upA rfl]
    refine ⟨rfl, fun _ => ⟨rfl, ⟨hN0, hN4⟩, fun i hi => ?_⟩⟩
    have hi' : i < (τ.1 0 48).toInt.toNat := by omega
    rw [t34 (400 * k + i), if_pos (by omega)]
    unfold va_cpy
    rw [if_pos (by omega), show 400 * k + i - 400 * k = i by omega, Nat.zero_add, ← hby i hi]
    have hfi := hgd.2.2.2.2.2 i (by rw [nsz]; exact hi')
    rw [n0, Nat.zero_add] at hfi
    exact (nar_byte (fits_byt hfi)).symm
  · rw [upN ek, upN ek, upN ek, upN ek]
    obtain ⟨h1, h2⟩ := hM k hk
    refine ⟨h1, fun h9 => ?_⟩
    obtain ⟨h3, h4, h5⟩ := h2 h9
    refine ⟨h3, h4, fun i hi => ?_⟩
    rw [t34 (400 * k + i), if_neg (by omega)]
    unfold va_cpy
    rw [if_neg (by omega)]
    exact h5 i hi
