/-! a field, from its name on -/
theorem ab_field_was (P t0 t1 r j : Nat) (p0 p1 x1 x2 : Int32) (nA nB : Int64) (σ τ a4 b4 : ST) (hP : 1 ≤ P ∧ P ≤ 6) (h400 : 400 ≤ t0) (h0 : p0.toInt = r) (h1 : p1.toInt = j) (hr : r < 36) (hj : j < 8) (hx1 : x1.toInt = 36 + (r : Int)) (hx2 : x2.toInt = 288 + 8 * (r : Int) + j) (hN : FRL P t0 r j σ τ) (hS : FS P t0 t1 r j nA nB σ τ a4 b4) (x : Nat) (hx : x + 40 * uT b4 + 2 ≤ 40 * uT τ) (K : Int32 × ST → Option (Int32 × ST)) (hK0 : K = fun q11 => if q11.1 = 0 then some (0, q11.2) else (f_X3_parseElse p0 p1 q11.2).bind fun q13 => if q13.1 = 0 then some (0, q13.2) else some (1, q13.2))
    (B : ST → Option ((Int32 × ST) × Nat)) (hB0 : B = fun b => (f_X11_isWas b).bind fun q12 => ac q12.2 (if q12.1.1 = 0 then (f_X11_field_169 x1 x2 nB q12.1.2) else ((f_X11_go q12.1.2).bind fun q14 => (f_X11_isName q14).bind fun q16 => ac q16.2 (if q16.1.1 = 0 then ((f_X11_wrongHere 1 q16.1.2).bind fun q22 => if q22.1 = 0 ∨ q22.1 = 1 then some ((q22.1, q22.2), 0) else none) else (if (lg_cmp (q16.1.2.2.1 0 7) nB) = 0 then ((f_X11_wrongHere 3 q16.1.2).bind fun q20 => if q20.1 = 0 ∨ q20.1 = 1 then some ((q20.1, q20.2), 0) else none) else ((f_X11_go (stL q16.1.2 14 (8 * (36 + r) + j) (q16.1.2.2.1 0 7))).bind fun q18 => f_X11_field_169 x1 x2 nB q18)))))) : OK ((f_X3_parseFormerName p0 p1 a4).bind K) (fun qa => OK (B b4) (fun y => FLD P t0 r j σ τ qa (y.1, x + y.2))) := by
  have hX4 := hS.1
  have hK4 := hX4.2.2.1
  have e2 : kwV 2 = v_was := rfl
  have l0 := li_0
  have l1 := li_1
  rw [hB0]
  dsimp only
  refine OK.sw ?_
  refine OK.bndK (b_isWas b4) (fun vw xw hvw hxw => ?_)
  refine OK.kac ?_
  dsimp only
  refine OK.sw ?_
  unfold f_X3_parseFormerName
  rw [Option.bind_assoc]
  refine OK.bndR (a_isKeyword 2 a4 b4 hK4 (k := 2) (by omega) li_2) (fun vk hvk => ?_)
  dsimp only
  rw [e2] at hvk
  have bf : ∀ (qa : Int32 × ST) (b s : ST) (v : Int32) (xx : Nat), qa.1.toInt = 0 → FZ t0 (36 + r) (8 * (36 + r) + j) τ b → CH [] [12] b s → v.toInt = 0 → xx + 40 * uT b ≤ 40 * uT τ + 23 → FLD P t0 r j σ τ qa ((v, s), xx) := fun qa b s v xx h1 hF c h2 hx => ⟨hF.trans (c.fz (by decide)) (Nat.le_refl t0) (Nat.le_refl _) (Nat.le_refl _), .inl ⟨h1, h2, by show xx + 40 * uT s ≤ _; rw [uT_eq (c.2.1 3 (by decide)) (c.2.1 5 (by decide)) (c.2.1 6 (by decide))]; omega⟩⟩
  by_cases hW : W_ b4 v_was
  rotate_left
  · have hv1 : vk.toInt = 0 := by
      rcases hvk with hv | hv
      · exact hv.1
      · exact absurd hv.2 hW
    have hvb1 : vw.toInt = 0 := by
      rcases hvw with hv | hv
      · exact hv.1
      · exact absurd hv.2 hW
    have ek : vk = 0 := Int32.toInt_inj.mp (by omega)
    rw [if_pos ek]
    refine OK.lt (fun z hz => ?_)
    subst hz
    rw [hK0]
    dsimp only
    rw [if_neg (by decide)]
    have h := ab_field_end P t0 t1 r j p0 p1 x1 x2 nA nB σ τ a4 b4 hP h400 h0 h1 hr hj hx1 hx2 hN hS (x + xw) (by omega)
    refine h.mono2 (fun qa y hy => ?_) |>.mono (fun qa hq => OK.ieq (fun _ => hq) (fun h => by omega))
    have e : x + xw + y.2 = x + (xw + y.2) := by omega
    rw [e] at hy
    exact hy
  have hv1 : vk.toInt = 1 := by
    rcases hvk with hv | hv
    · exact absurd hW hv.2
    · exact hv.1
  have hvb1 : vw.toInt = 1 := by
    rcases hvw with hv | hv
    · exact absurd hW hv.2
    · exact hv.1
  have ek : ¬ vk = 0 := fun e => by rw [e] at hv1; omega
  have ewb : ¬ vw = 0 := fun e => by rw [e] at hvb1; omega
  rw [if_neg ek, Option.bind_assoc, if_neg ewb]
  have kA := (hK4.kw (k := 2) (by omega)).mp (by rw [e2]; exact hW)
  have hg4 := hK4.hg (by omega) (by omega)
  have u4 := uT_1 (τ := b4) (by have := hW.1; omega)
  have nx4 := hX4.nxt.1
  refine OK.bnd2 (ab_go a4 b4 hX4 hg4) (fun a5 b5 hq => ?_)
  obtain ⟨ca, cb, cL, hX5, hat, _, hu⟩ := hq
  have hS5 : FS P t0 t1 r j nA nB σ τ a5 b5 := hS.ext (fun c hc => ca.1 c hc) (fun c hc => ca.2.2.1 c (fun e => hc (by rw [e]; decide))) (fun i _ => by rw [ca.2.2.1 28 (by decide)]) (fun c hc => cb.1 c hc (by simp)) (fun i hi => cb.2.1 i (fun h9 => hi (by
    simp only [List.mem_cons, List.not_mem_nil, or_false] at h9 ⊢
    omega))) (fun c hc => cL c (fun e => hc (by rw [e]; decide))) (fun i _ => by rw [cL 14 (by decide)]) (by rw [ca.2.2.1 28 (by decide), cL 14 (by decide)]; exact hS.2.2.2.2.2.2.2.2.2.1) hX5 (by omega)
  have hK5 := hX5.2.2.1
  have hF5 := hS5.2.2.2.2.2.1.1
  have w12 := hS5.2.2.2.2.1.2.2.2
  have n27 := hS5.2.2.2.2.1.2.2.1
  refine OK.sw ?_
  refine OK.bndK (b_isName b5) (fun vn xn hvn hxn => ?_)
  refine OK.kac ?_
  dsimp only
  by_cases hN5 : NM b5
  rotate_left
  · have hn0 : vn.toInt = 0 := by
      rcases hvn with hv | hv
      · exact hv.1
      · exact absurd hv.2 hN5
    have k3 : ¬ a5.1 2 4 = 3 := fun e => hN5 (hK5.nm.mpr (by rw [e]; exact li_3))
    refine OK.ieq (fun _ => ?_) (fun h => by omega)
    refine OK.bndC (b_wrongHere 1 b5) (fun v2 s2 c2 hv2 => ?_)
    refine OK.grd (b01 (.inl hv2)) ?_
    refine OK.ret ?_
    rw [if_neg k3, Option.bind_assoc]
    refine OK.bnd (a_refuse _ _) (fun q hq => ?_)
    rw [if_pos (b01 (.inl hq))]
    refine OK.lt (fun z hz => ?_)
    subst hz
    rw [hK0]
    refine OK.ieq (fun _ => ?_) (fun h => absurd hq h)
    exact OK.ret (bf (0, q.2) b5 s2 v2 _ l0 hF5 c2 hv2 (by show x + (xw + (xn + 0)) + 40 * uT b5 ≤ _; omega))
  have hn1 : vn.toInt = 1 := by
    rcases hvn with hv | hv
    · exact absurd hN5 hv.2
    · exact hv.1
  have k3 : a5.1 2 4 = 3 := Int32.toInt_inj.mp (hK5.nm.mp hN5)
  have k3' : (a5.1 2 4).toInt = 3 := hK5.nm.mp hN5
  obtain ⟨w1, w2, w3⟩ := hK5.wd (by rw [sv_nm hK5 hN5]; omega)
  refine OK.ieq (fun h => by omega) (fun _ => ?_)
  refine OK.sw ?_
  rw [if_pos k3, Option.bind_assoc]
  refine OK.bndR (OK.eqR (a_fieldName p0 p1 a5 h0 h1 hr hj)) (fun w hw => ?_)
  rw [hw, n27]
  dsimp only
  by_cases heq : b5.2.1 0 7 = nB
  · have hA : a5.2.1 2 7 = nA := (w3.iff w12).mpr heq
    rw [if_pos (lg_cmp_eq _ _ |>.mpr hA), if_pos (lg_cmp_eq _ _ |>.mpr heq), Option.bind_assoc]
    refine OK.bnd (a_refuse _ _) (fun q hq => ?_)
    rw [if_pos (b01 (.inl hq))]
    refine OK.lt (fun z hz => ?_)
    subst hz
    rw [hK0]
    refine OK.ieq (fun _ => ?_) (fun h => absurd hq h)
    refine OK.ret ?_
    refine OK.bndC (b_wrongHere 3 b5) (fun v2 s2 c2 hv2 => ?_)
    refine OK.grd (b01 (.inl hv2)) ?_
    exact OK.ret (bf (0, q.2) b5 s2 v2 _ l0 hF5 c2 hv2 (by show x + (xw + (xn + 0)) + 40 * uT b5 ≤ _; omega))
  have hA : ¬ a5.2.1 2 7 = nA := fun e => heq ((w3.iff w12).mp e)
  rw [if_neg (fun h => hA (lg_cmp_eq _ _ |>.mp h)), if_neg (fun h => heq (lg_cmp_eq _ _ |>.mp h)), Option.bind_assoc, a_setFormerName p0 p1 _ a5 h0 h1 hr hj]
  refine OK.lt (fun a6 ha6 => ?_)
  rw [Option.bind_assoc]
  have ea1 : ∀ c, a6.1 c = a5.1 c := fun c => by rw [ha6]; rfl
  have ea2 : ∀ c, c ≠ 28 → a6.2.1 c = a5.2.1 c := fun c hc => by rw [ha6, stL_ne hc]
  have ea28 : a6.2.1 28 = vp_updL (a5.2.1 28) (8 * r + j) (a5.2.1 2 7) := by rw [ha6]; rfl
  have eb1 : ∀ c, (stL b5 14 (8 * (36 + r) + j) (b5.2.1 0 7)).1 c = b5.1 c := fun c => rfl
  have eb14 : (stL b5 14 (8 * (36 + r) + j) (b5.2.1 0 7)).2.1 14 = vp_updL (b5.2.1 14) (8 * (36 + r) + j) (b5.2.1 0 7) := rfl
  have eb2 : ∀ c, c ≠ 14 → (stL b5 14 (8 * (36 + r) + j) (b5.2.1 0 7)).2.1 c = b5.2.1 c := fun c hc => stL_ne hc
  generalize stL b5 14 (8 * (36 + r) + j) (b5.2.1 0 7) = b6 at eb1 eb2 eb14 ⊢
  have hX6 : LX a6 b6 := hX5.ext (ea1 1) (ea1 2) (ea2 3 (by decide)) (ea2 2 (by decide)) (eb1 1) (fun i _ => by rw [eb1]) (eb2 0 (by decide))
  have hg6 : a6.1 2 3 = b6.1 0 5 := by rw [ea1, eb1]; exact hK5.hg (by omega) (by omega)
  have hS6 : FS P t0 t1 r j nA nB σ τ a6 b6 := hS5.ext (fun c _ => ea1 c) (fun c hc => ea2 c (fun e => hc (by rw [e]; decide))) (fun i hi => by rw [ea28, updL_no (by omega)]) (fun c _ => eb1 c) (fun i _ => by rw [eb1]) (fun c hc => eb2 c (fun e => hc (by rw [e]; decide))) (fun i hi => by rw [eb14, updL_no (by omega)]) (by rw [ea28, eb14, updL_at, updL_at]; exact .inr ⟨w3, hX5.wnz hN5⟩) hX6 (by rw [eb1]; exact Int.le_refl _)
  have u6 : uT b6 = uT b5 := uT_eq (by rw [eb1]) (by rw [eb1]) (by rw [eb1])
  have u6' := uT_1 (τ := b6) (by rw [eb1]; omega)
  have nx6 := hX6.nxt.1
  refine OK.bnd2 (ab_go a6 b6 hX6 hg6) (fun a7 b7 hq7 => ?_)
  obtain ⟨ca7, cb7, cL7, hX7, hat7, _, hu7⟩ := hq7
  have hS7 : FS P t0 t1 r j nA nB σ τ a7 b7 := hS6.ext (fun c hc => ca7.1 c hc) (fun c hc => ca7.2.2.1 c (fun e => hc (by rw [e]; decide))) (fun i _ => by rw [ca7.2.2.1 28 (by decide)]) (fun c hc => cb7.1 c hc (by simp)) (fun i hi => cb7.2.1 i (fun h9 => hi (by
    simp only [List.mem_cons, List.not_mem_nil, or_false] at h9 ⊢
    omega))) (fun c hc => cL7 c (fun e => hc (by rw [e]; decide))) (fun i _ => by rw [cL7 14 (by decide)]) (by rw [ca7.2.2.1 28 (by decide), cL7 14 (by decide)]; exact hS6.2.2.2.2.2.2.2.2.2.1) hX7 (by omega)
  refine OK.lt (fun z hz => ?_)
  subst hz
  rw [hK0]
  dsimp only
  rw [if_neg (by decide)]
  have h := ab_field_end P t0 t1 r j p0 p1 x1 x2 nA nB σ τ a7 b7 hP h400 h0 h1 hr hj hx1 hx2 hN hS7 (x + xw + xn) (by omega)
  refine h.mono2 (fun qa y hy => ?_)
  have e : x + xw + xn + y.2 = x + (xw + (xn + y.2)) := by omega
  rw [e] at hy
  exact hy
theorem ab_field (P t0 r j : Nat) (p0 p1 pB : Int32) (σ τ : ST) (hP : 1 ≤ P ∧ P ≤ 6) (hX : LX σ τ) (h0 : p0.toInt = r) (h1 : p1.toInt = j) (hr : r < 36) (hj : j ≤ 8) (hpB : pB.toInt = 36 + (r : Int)) (h400 : 400 ≤ t0) (hcB : (τ.1 0 34).toInt = t0) (hcA : (σ.1 20 1).toInt = (t0 : Int) + P - 400) (hb : 4 * ((t0 : Int) - 400) ≤ (τ.1 0 4).toInt) (hfA : (σ.1 23 r).toInt = j) (hfB : (τ.1 11 (36 + r)).toInt = j) (hN : FRL P t0 r j σ τ) : OK (f_X3_parseField p0 p1 σ) (fun qa => OK (f_X11_field pB τ) (FLD P t0 r j σ τ qa)) := by
  unfold f_X3_parseField f_X11_field
  have hK := hX.2.2.1
  have hnm := hK.nm
  have nB : pB.toNatClampNeg = 36 + r := nC (by omega)
  have l0 := li_0
  have l1 := li_1
  have lm := li_m1
  have l3 := li_3
  have l8 := li_8
  have bf : ∀ (qa : Int32 × ST) (x : Nat) (v : Int32) (s : ST), qa.1.toInt = 0 → CH [] [12] τ s → v.toInt = 0 → x ≤ 23 → FLD P t0 r j σ τ qa ((v, s), x) := fun qa x v s h1 c h2 hx => ⟨c.fz (by decide), .inl ⟨h1, h2, by show x + 40 * uT s ≤ _; rw [uT_eq (c.2.1 3 (by decide)) (c.2.1 5 (by decide)) (c.2.1 6 (by decide))]; omega⟩⟩
  refine OK.sw ?_
  refine OK.bndK (b_isName τ) (fun v x hv hx => ?_)
  refine OK.kac ?_
  dsimp only
  by_cases hNM : NM τ
  rotate_left
  · have hv0 : v.toInt = 0 := by
      rcases hv with hv | hv
      · exact hv.1
      · exact absurd hv.2 hNM
    have hk3 : ¬ (σ.1 2 4).toInt = 3 := fun e => hNM (hnm.mpr e)
    refine OK.ieq (fun _ => ?_) (fun h => by omega)
    refine OK.bndC (b_wrongHere 1 τ) (fun v2 s2 c2 hv2 => ?_)
    refine OK.grd (b01 (.inl hv2)) ?_
    refine OK.ret ?_
    refine OK.ieq (fun h => by omega) (fun _ => ?_)
    refine OK.bnd (a_refuse _ _) (fun q hq => ?_)
    refine OK.grd (b01 (.inl hq)) ?_
    exact OK.ret (bf (q.1, q.2) _ v2 s2 hq c2 hv2 (by show x + 0 ≤ 23; omega))
  have hk3 := hnm.mp hNM
  have hv1 : v.toInt = 1 := by
    rcases hv with hv | hv
    · exact absurd hNM hv.2
    · exact hv.1
  refine OK.ieq (fun h => by omega) (fun _ => ?_)
  obtain ⟨w1, w2, w3⟩ := hK.wd (by rw [sv_nm hK hNM]; omega)
  refine OK.bndR (bx_fieldOf pB (τ.2.1 0 7) τ (36 + r) j (by omega) (by omega) hfB hj) (fun vb hvb => ?_)
  dsimp only
  refine OK.sw ?_
  refine OK.ieq (fun _ => ?_) (fun h => by omega)
  refine OK.bndR (a_fieldNamed p0 (σ.2.1 2 7) σ r j hr h0 hfA hj) (fun va hva => ?_)
  dsimp only
  have same : (∃ i : Nat, i < j ∧ σ.2.1 27 (8 * r + i) = σ.2.1 2 7) ↔ ∃ i : Nat, i < j ∧ τ.2.1 12 (8 * (36 + r) + i) = τ.2.1 0 7 := ⟨fun ⟨i, hi, e⟩ => ⟨i, hi, ((hN.nms i hi).iff w3).mp e⟩, fun ⟨i, hi, e⟩ => ⟨i, hi, ((hN.nms i hi).iff w3).mpr e⟩⟩
  by_cases hex : ∃ i : Nat, i < j ∧ σ.2.1 27 (8 * r + i) = σ.2.1 2 7
  · have hva0 : 0 ≤ va.toInt := by
      rcases hva with hv | hv
      · obtain ⟨i, hi, e⟩ := hex
        exact absurd e (hv.2 i hi)
      · exact hv.1
    have hvb0 : 0 ≤ vb.toInt := by
      rcases hvb with hv | hv
      · obtain ⟨i, hi, e⟩ := same.mp hex
        exact absurd e (hv.2 i hi)
      · exact hv.1
    clear hva hvb same hex
    refine OK.ieq (fun h => by omega) (fun _ => ?_)
    refine OK.bnd (a_refuse _ _) (fun q hq => ?_)
    refine OK.grd (b01 (.inl hq)) ?_
    refine OK.ret ?_
    refine OK.ilt (fun h => by omega) (fun _ => ?_)
    refine OK.bndC (b_wrongHere 3 τ) (fun v2 s2 c2 hv2 => ?_)
    refine OK.grd (b01 (.inl hv2)) ?_
    exact OK.ret (bf (q.1, q.2) _ v2 s2 hq c2 hv2 (by show x + 0 ≤ 23; omega))
  have hva1 : va.toInt = -1 := by
    rcases hva with hv | hv
    · exact hv.1
    · exact absurd hv.2 hex
  have hvb1 : vb.toInt = -1 := by
    rcases hvb with hv | hv
    · exact hv.1
    · exact absurd (same.mpr hv.2) hex
  clear hva hvb same hex
  refine OK.ieq (fun _ => ?_) (fun h => by omega)
  by_cases hj8 : j = 8
  · refine OK.ilt (fun h => by omega) (fun _ => ?_)
    refine OK.bnd (a_refuse _ _) (fun q hq => ?_)
    refine OK.grd (b01 (.inl hq)) ?_
    refine OK.ret ?_
    refine OK.ilt (fun _ => ?_) (fun h => by omega)
    refine OK.grd ⟨by omega, by omega⟩ ?_
    rw [nB]
    refine OK.ieq (fun _ => ?_) (fun h => by omega)
    refine OK.bndC (b_wrongHere 4 τ) (fun v2 s2 c2 hv2 => ?_)
    refine OK.grd (b01 (.inl hv2)) ?_
    exact OK.ret (bf (q.1, q.2) _ v2 s2 hq c2 hv2 (by show x + 0 ≤ 23; omega))
  refine OK.ilt (fun _ => ?_) (fun h => by omega)
  refine OK.bnd (a_addField p0 (σ.2.1 2 7) σ h0 hfA hr (by omega)) (fun a1 ha1 => ?_)
  obtain ⟨f1, f2, f3, f4, f5, f6, f7, f8, f9⟩ := ha1
  refine OK.sw ?_
  refine OK.ilt (fun _ => ?_) (fun h => by omega)
  refine OK.grd ⟨by omega, by omega⟩ ?_
  rw [nB]
  refine OK.ieq (fun h => by omega) (fun _ => ?_)
  have e8 := mlE (k := 8) (y := pB) 8 (by decide) (by omega) (by omega)
  have eN := il_addE (x := 8 * pB) (y := τ.1 11 (36 + r)) (by omega) (by omega)
  have nN : (8 * pB + τ.1 11 (36 + r)).toNatClampNeg = 8 * (36 + r) + j := nC (by omega)
  have hx2 : (8 * pB + τ.1 11 (36 + r)).toInt = 288 + 8 * (r : Int) + j := by omega
  refine OK.grd ⟨by omega, by omega⟩ ?_
  rw [nN]
  refine OK.lt (fun z hz => ?_)
  have g1 : ∀ c, c ∉ [13, 16] → (stI z 16 (8 * (36 + r) + j) (vp_nar .boolean 0)).1 c = τ.1 c := fun c hc => by
    simp only [List.mem_cons, List.not_mem_nil, or_false, not_or] at hc
    rw [stI_ne hc.2, hz]
    show (stI τ 13 _ _).1 c = _
    rw [stI_ne hc.1]
  have g2 : ∀ c, c ≠ 14 → (stI z 16 (8 * (36 + r) + j) (vp_nar .boolean 0)).2.1 c = τ.2.1 c := fun c hc => by
    show z.2.1 c = _
    rw [hz, stL_ne hc]
    rfl
  have g13 : (stI z 16 (8 * (36 + r) + j) (vp_nar .boolean 0)).1 13 = upd (τ.1 13) (8 * (36 + r) + j) (τ.1 0 8) := by
    rw [stI_ne (by decide), hz]
    rfl
  have g16 : (stI z 16 (8 * (36 + r) + j) (vp_nar .boolean 0)).1 16 = upd (τ.1 16) (8 * (36 + r) + j) (vp_nar .boolean 0) := by
    have e9 : (stI z 16 (8 * (36 + r) + j) (vp_nar .boolean 0)).1 16 = upd (z.1 16) (8 * (36 + r) + j) (vp_nar .boolean 0) := rfl
    rw [e9, hz]
    rfl
  have g14 : (stI z 16 (8 * (36 + r) + j) (vp_nar .boolean 0)).2.1 14 = vp_updL (τ.2.1 14) (8 * (36 + r) + j) 0 := by
    show z.2.1 14 = _
    rw [hz]
    rfl
  have nb0 : (vp_nar .boolean 0).toInt = 0 := by decide
  clear hz
  generalize stI z 16 (8 * (36 + r) + j) (vp_nar .boolean 0) = b1 at g1 g2 g13 g14 g16 ⊢
  have hX1 : LX a1 b1 := hX.ext (f1 1 (by decide)) (f1 2 (by decide)) (f2 3 (by decide)) (f2 2 (by decide)) (g1 1 (by decide)) (fun i _ => by rw [g1 0 (by decide)]) (g2 0 (by decide))
  have hg1 : a1.1 2 3 = b1.1 0 5 := by rw [f1 2 (by decide), g1 0 (by decide)]; exact w2
  have nx := hX.nxt.2 (by omega)
  have u1 := uT_1 (τ := τ) (by omega)
  refine OK.sw ?_
  refine OK.bnd2 (ab_go a1 b1 hX1 hg1) (fun a2 b2 hq => ?_)
  obtain ⟨ca, cb, cL, hX2, hat, hadj, hu⟩ := hq
  rw [g1 0 (by decide)] at hat hadj hu
  have lr : ((FR : Nat) : Int) = 160 := rfl
  have pre : PRE P t0 a2 b2 := ⟨hP, ⟨h400, by rw [cb.2.1 34 (by decide), g1 0 (by decide)]; exact hcB, by rw [ca.1 20 (by decide), f1 20 (by decide)]; exact hcA⟩, hX2, by omega, fun h9 => by have := hadj w1 h9; omega⟩
  have hT := (ab_RT FR FRB (by unfold FR FRB; omega)).2 P t0 0 0 0 (-1) a2 b2 pre ⟨by omega, by omega⟩ rfl ⟨by omega, .inl ⟨by omega, rfl⟩⟩ (by omega)
  unfold f_T_X3_parseType f_T_X11_type
  refine OK.bnd2 hT (fun qa qb hq => ?_)
  obtain ⟨fq, hq⟩ := hq
  have e15 : (stI qb.1.2 15 (8 * (36 + r) + j) qb.1.1).1 15 (8 * (36 + r) + j) = qb.1.1 := by
    have e9 : (stI qb.1.2 15 (8 * (36 + r) + j) qb.1.1).1 15 = upd (qb.1.2.1 15) (8 * (36 + r) + j) qb.1.1 := rfl
    rw [e9, upd_at]
  have m1 : ∀ c, c ≠ 15 → (stI qb.1.2 15 (8 * (36 + r) + j) qb.1.1).1 c = qb.1.2.1 c := fun c hc => stI_ne hc
  have m2 : ∀ i, i ≠ 8 * (36 + r) + j → (stI qb.1.2 15 (8 * (36 + r) + j) qb.1.1).1 15 i = qb.1.2.1 15 i := fun i hi => by
    have e9 : (stI qb.1.2 15 (8 * (36 + r) + j) qb.1.1).1 15 = upd (qb.1.2.1 15) (8 * (36 + r) + j) qb.1.1 := rfl
    rw [e9, upd_no hi]
  have m3 : (stI qb.1.2 15 (8 * (36 + r) + j) qb.1.1).2.1 = qb.1.2.2.1 := rfl
  generalize stI qb.1.2 15 (8 * (36 + r) + j) qb.1.1 = b4 at e15 m1 m2 m3 ⊢
  rw [e15]
  have Z1 : FZ t0 (36 + r) (8 * (36 + r) + j) τ b1 := by
    refine ⟨fun c hc => g1 c (fun h9 => hc ?_), fun i _ => by rw [g1 0 (by decide)], fun j _ => ⟨by rw [g1 2 (by decide)], by rw [g1 3 (by decide)], by rw [g1 4 (by decide)]⟩, fun j _ => by rw [g1 5 (by decide)], fun i _ => by rw [g1 11 (by decide)], fun i hi => ⟨by rw [g1 15 (by decide)], by rw [g13, upd_no (by omega)], by rw [g16, upd_no (by omega)], by rw [g1 19 (by decide)]⟩, fun h i => by rw [g1 19 (by decide)]; exact h i, g2 9 (by decide), fun i hi => ⟨by rw [g2 12 (by decide)], by rw [g14, updL_no (by omega)], by rw [g2 17 (by decide)], by rw [g2 18 (by decide)]⟩⟩
    simp only [List.mem_cons, List.not_mem_nil, or_false] at h9 ⊢
    omega
  have Z2 : FZ t0 (36 + r) (8 * (36 + r) + j) τ qb.1.2 := (Z1.trans (cb.fz (by decide)) (Nat.le_refl t0) (Nat.le_refl _) (Nat.le_refl _)).trans fq.fz (Nat.le_refl t0) (Nat.le_refl _) (Nat.le_refl _)
  have Z4 : FZ t0 (36 + r) (8 * (36 + r) + j) τ b4 := by
    refine Z2.trans (t1 := t0) (R1 := 36 + r) (N1 := 8 * (36 + r) + j) ⟨fun c hc => m1 c (fun e => hc (by rw [e]; decide)), fun i _ => by rw [m1 0 (by decide)], fun j _ => ⟨by rw [m1 2 (by decide)], by rw [m1 3 (by decide)], by rw [m1 4 (by decide)]⟩, fun j _ => by rw [m1 5 (by decide)], fun i _ => by rw [m1 11 (by decide)], fun i hi => ⟨m2 i (by omega), by rw [m1 13 (by decide)], by rw [m1 16 (by decide)], by rw [m1 19 (by decide)]⟩, fun h i => by rw [m1 19 (by decide)]; exact h i, by rw [m3], fun i _ => ⟨by rw [m3], by rw [m3], by rw [m3], by rw [m3]⟩⟩ (Nat.le_refl _) (Nat.le_refl _) (Nat.le_refl _)
  have u4 : uT b4 = uT qb.1.2 := uT_eq (by rw [m1 0 (by decide)]) (by rw [m1 0 (by decide)]) (by rw [m1 0 (by decide)])
  rcases hq with ⟨q1, q2, q3⟩ | ⟨_, hTS, q3⟩
  · refine OK.ieq (fun _ => ?_) (fun h => by omega)
    refine OK.ret ?_
    refine OK.kac ?_
    refine OK.ile (fun h => by omega) (fun _ => ?_)
    refine OK.ret ⟨Z4, .inl ⟨l0, l0, ?_⟩⟩
    show x + (qb.2 + 0) + 40 * uT b4 ≤ _
    omega
  obtain ⟨t1, ⟨i1, i2, i3, i4, i5⟩, iF, iX, iL, iR, iV, iS, iB, iB2, iRX, i33⟩ := hTS
  refine OK.ieq (fun h => by omega) (fun _ => ?_)
  rw [a_setType p0 p1 qa.1 qa.2 h0 h1 hr (by omega)]
  refine OK.lt (fun a4 ha4 => ?_)
  have k1 : ∀ c, c ≠ 29 → a4.1 c = qa.2.1 c := fun c hc => by rw [ha4, stI_ne hc]
  have k2 : a4.1 29 (8 * r + j) = qa.1 := by
    have e9 : (stI qa.2 29 (8 * r + j) qa.1).1 29 = upd (qa.2.1 29) (8 * r + j) qa.1 := rfl
    rw [ha4, e9, upd_at]
  have k3 : a4.2.1 = qa.2.2.1 := by rw [ha4]; rfl
  have k29 : ∀ i, i ≠ 8 * r + j → a4.1 29 i = qa.2.1 29 i := fun i hi => by
    have e9 : (stI qa.2 29 (8 * r + j) qa.1).1 29 = upd (qa.2.1 29) (8 * r + j) qa.1 := rfl
    rw [ha4, e9, upd_no hi]
  clear ha4
  have X4 : LX a4 b4 := iX.ext (k1 1 (by decide)) (k1 2 (by decide)) (by rw [k3]) (by rw [k3]) (m1 1 (by decide)) (fun i _ => by rw [m1 0 (by decide)]) (by rw [m3])
  have at4 := X4.at
  rw [← m1 0 (by decide)] at i4 iB
  have hS : FS P t0 t1 r j (σ.2.1 2 7) (τ.2.1 0 7) σ τ a4 b4 := by
    refine ⟨X4, ⟨i4, by rw [k1 20 (by decide)]; exact i5, i3, by omega⟩, ⟨by rw [k2]; exact i1, by rw [e15]; exact i2⟩, ⟨iR.ext (k1 31 (by decide)) (k1 32 (by decide)) (by rw [k3]) (m1 2 (by decide)) (m1 4 (by decide)) (m1 5 (by decide)) (by rw [m3]), ?_⟩, ⟨?_, ?_, ?_, w3⟩, ⟨Z4, ?_, ?_⟩, iB, iRX.eq (k1 32 (by decide)) (k1 33 (by decide)) (m1 2 (by decide)) (m1 3 (by decide)) (m1 4 (by decide)) (m1 5 (by decide)), ?_, ?_, ?_, ?_⟩
    · have e4 : (4 - (0 : Int32).toInt).toNat = 4 := by decide
      rw [e4] at iV
      rw [m1 2 (by decide), m1 3 (by decide), m1 4 (by decide), m1 5 (by decide), e15]
      exact iV
    · rw [k1 23 (by decide), iF.1 23 (by decide), ca.1 23 (by decide)]
      exact f3
    · rw [m1 11 (by decide), fq.1 11 (by decide), cb.1 11 (by decide) (by decide), g1 11 (by decide)]
      exact hfB
    · rw [k3, iF.2.2.1 27 (by decide), ca.2.2.1 27 (by decide)]
      exact f5
    · refine ⟨fun c hc => ?_, fun i hi => ?_, fun i hi => ?_⟩
      · have hc' := hc
        simp only [List.mem_cons, List.not_mem_nil, or_false, not_or] at hc'
        rw [m3, iL.1 c (by simp only [List.mem_cons, List.not_mem_nil, or_false, not_or]; exact ⟨hc'.1, hc'.2.1⟩), cL c hc'.1, g2 c hc'.2.2.2.1]
      · rw [m3, iL.2 i hi, cL 6 (by decide), g2 6 (by decide)]
      · rw [m3, iL.1 12 (by decide), cL 12 (by decide), g2 12 (by decide), iL.1 14 (by decide), cL 14 (by decide), g14, updL_no (by omega), iL.1 17 (by decide), cL 17 (by decide), g2 17 (by decide), iL.1 18 (by decide), cL 18 (by decide), g2 18 (by decide)]
        exact ⟨rfl, rfl, rfl, rfl⟩
    · have A1 : AFF (t0 + P - 400) r (8 * r + j) σ a1 := by
        refine ⟨fun c hc => f1 c (fun h9 => hc ?_), fun i _ => by rw [f1 20 (by decide)], fun i hi => ⟨f4 i (by omega), by rw [f1 25 (by decide)]⟩, fun c hc => f2 c (fun h9 => hc ?_), fun i hi => ⟨f6 i (by omega), (f9 i (by omega)).1, (f9 i (by omega)).2, f7 i (by omega)⟩, fun i _ => ⟨by rw [f1 31 (by decide)], by rw [f1 32 (by decide)], by rw [f2 34 (by decide)], by rw [f1 33 (by decide)]⟩⟩
        · simp only [List.mem_cons, List.not_mem_nil, or_false] at h9 ⊢
          omega
        · simp only [List.mem_cons, List.not_mem_nil, or_false] at h9 ⊢
          omega
      have A4 : AFF (t0 + P - 400) r (8 * r + j) qa.2 a4 := ⟨fun c hc => k1 c (fun e => hc (by rw [e]; decide)), fun i _ => by rw [k1 20 (by decide)], fun i _ => ⟨by rw [k1 23 (by decide)], by rw [k1 25 (by decide)]⟩, fun c _ => by rw [k3], fun i hi => ⟨by rw [k3], by rw [k3], by rw [k3], k29 i (by omega)⟩, fun i _ => ⟨by rw [k1 31 (by decide)], by rw [k1 32 (by decide)], by rw [k3], by rw [k1 33 (by decide)]⟩⟩
      exact ((A1.trans ca.aff (Nat.le_refl (t0 + P - 400)) (Nat.le_refl r) (Nat.le_refl (8 * r + j))).trans iF.aff (Nat.le_refl _) (Nat.le_refl r) (Nat.le_refl (8 * r + j))).trans A4 (Nat.le_refl _) (Nat.le_refl _) (Nat.le_refl _)
    · rw [m1 13 (by decide), fq.1 13 (by decide), cb.1 13 (by decide) (by decide), g13, upd_at]
      exact hX.rlen hNM
    · refine .inl ⟨?_, ?_⟩
      · rw [k3, iF.2.2.1 28 (by decide), ca.2.2.1 28 (by decide)]
        exact f8
      · rw [m3, iL.1 14 (by decide), cL 14 (by decide), g14, updL_at]
    · rw [m1 16 (by decide), fq.1 16 (by decide), cb.1 16 (by decide) (by decide), g16, upd_at]
      exact nb0
    · rw [k1 25 (by decide), iF.1 25 (by decide), ca.1 25 (by decide), f1 25 (by decide)]
  have hw := ab_field_was P t0 t1 r j p0 p1 pB (8 * pB + τ.1 11 (36 + r)) (σ.2.1 2 7) (τ.2.1 0 7) σ τ a4 b4 hP h400 h0 h1 hr (by omega) hpB hx2 hN hS (x + qb.2) (by omega) _ rfl _ rfl
  refine hw.mono (fun qa9 h9 => ?_)
  refine OK.kac ?_
  refine OK.ile (fun _ => ?_) (fun h => by omega)
  refine h9.mono (fun y hy => ?_)
  have e : x + qb.2 + y.2 = x + (qb.2 + y.2) := by omega
  rw [e] at hy
  exact hy
