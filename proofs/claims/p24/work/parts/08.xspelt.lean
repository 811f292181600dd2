theorem dX11_spelt_0 : decode cX11_spelt 0 = .ok (.lconst 0, 1) := by decide +kernel
theorem dX11_spelt_1 : decode cX11_spelt 1 = .ok (.lstore 6, 2) := by decide +kernel
theorem dX11_spelt_3 : decode cX11_spelt 3 = .ok (.bipush 6, 2) := by decide +kernel
theorem dX11_spelt_5 : decode cX11_spelt 5 = .ok (.newarray .int, 2) := by decide +kernel
theorem dX11_spelt_7 : decode cX11_spelt 7 = .ok (.dup, 1) := by decide +kernel
theorem dX11_spelt_8 : decode cX11_spelt 8 = .ok (.iconst 0, 1) := by decide +kernel
theorem dX11_spelt_9 : decode cX11_spelt 9 = .ok (.iload_n 0, 1) := by decide +kernel
theorem dX11_spelt_10 : decode cX11_spelt 10 = .ok (.iastore, 1) := by decide +kernel
theorem dX11_spelt_11 : decode cX11_spelt 11 = .ok (.dup, 1) := by decide +kernel
theorem dX11_spelt_12 : decode cX11_spelt 12 = .ok (.iconst 1, 1) := by decide +kernel
theorem dX11_spelt_13 : decode cX11_spelt 13 = .ok (.iload_n 1, 1) := by decide +kernel
theorem dX11_spelt_14 : decode cX11_spelt 14 = .ok (.iastore, 1) := by decide +kernel
theorem dX11_spelt_15 : decode cX11_spelt 15 = .ok (.dup, 1) := by decide +kernel
theorem dX11_spelt_16 : decode cX11_spelt 16 = .ok (.iconst 2, 1) := by decide +kernel
theorem dX11_spelt_17 : decode cX11_spelt 17 = .ok (.iload_n 2, 1) := by decide +kernel
theorem dX11_spelt_18 : decode cX11_spelt 18 = .ok (.iastore, 1) := by decide +kernel
theorem dX11_spelt_19 : decode cX11_spelt 19 = .ok (.dup, 1) := by decide +kernel
theorem dX11_spelt_20 : decode cX11_spelt 20 = .ok (.iconst 3, 1) := by decide +kernel
theorem dX11_spelt_21 : decode cX11_spelt 21 = .ok (.iload_n 3, 1) := by decide +kernel
theorem dX11_spelt_22 : decode cX11_spelt 22 = .ok (.iastore, 1) := by decide +kernel
theorem dX11_spelt_23 : decode cX11_spelt 23 = .ok (.dup, 1) := by decide +kernel
theorem dX11_spelt_24 : decode cX11_spelt 24 = .ok (.iconst 4, 1) := by decide +kernel
theorem dX11_spelt_25 : decode cX11_spelt 25 = .ok (.iload 4, 2) := by decide +kernel
theorem dX11_spelt_27 : decode cX11_spelt 27 = .ok (.iastore, 1) := by decide +kernel
theorem dX11_spelt_28 : decode cX11_spelt 28 = .ok (.dup, 1) := by decide +kernel
theorem dX11_spelt_29 : decode cX11_spelt 29 = .ok (.iconst 5, 1) := by decide +kernel
theorem dX11_spelt_30 : decode cX11_spelt 30 = .ok (.iload 5, 2) := by decide +kernel
theorem dX11_spelt_32 : decode cX11_spelt 32 = .ok (.iastore, 1) := by decide +kernel
theorem dX11_spelt_33 : decode cX11_spelt 33 = .ok (.astore 8, 2) := by decide +kernel
theorem dX11_spelt_35 : decode cX11_spelt 35 = .ok (.iconst 0, 1) := by decide +kernel
theorem dX11_spelt_36 : decode cX11_spelt 36 = .ok (.istore 9, 2) := by decide +kernel
theorem dX11_spelt_38 : decode cX11_spelt 38 = .ok (.iload 9, 2) := by decide +kernel
theorem dX11_spelt_40 : decode cX11_spelt 40 = .ok (.bipush 6, 2) := by decide +kernel
theorem dX11_spelt_42 : decode cX11_spelt 42 = .ok (.if_icmp .ge 41, 3) := by decide +kernel
theorem dX11_spelt_45 : decode cX11_spelt 45 = .ok (.aload 8, 2) := by decide +kernel
theorem dX11_spelt_47 : decode cX11_spelt 47 = .ok (.iload 9, 2) := by decide +kernel
theorem dX11_spelt_49 : decode cX11_spelt 49 = .ok (.iaload, 1) := by decide +kernel
theorem dX11_spelt_50 : decode cX11_spelt 50 = .ok (.ifCond .le 23, 3) := by decide +kernel
theorem dX11_spelt_53 : decode cX11_spelt 53 = .ok (.ldc2_w 222, 3) := by decide +kernel
theorem dX11_spelt_56 : decode cX11_spelt 56 = .ok (.lload 6, 2) := by decide +kernel
theorem dX11_spelt_58 : decode cX11_spelt 58 = .ok (.lmul, 1) := by decide +kernel
theorem dX11_spelt_59 : decode cX11_spelt 59 = .ok (.aload 8, 2) := by decide +kernel
theorem dX11_spelt_61 : decode cX11_spelt 61 = .ok (.iload 9, 2) := by decide +kernel
theorem dX11_spelt_63 : decode cX11_spelt 63 = .ok (.iaload, 1) := by decide +kernel
theorem dX11_spelt_64 : decode cX11_spelt 64 = .ok (.i2l, 1) := by decide +kernel
theorem dX11_spelt_65 : decode cX11_spelt 65 = .ok (.ladd, 1) := by decide +kernel
theorem dX11_spelt_66 : decode cX11_spelt 66 = .ok (.ldc2_w 224, 3) := by decide +kernel
theorem dX11_spelt_69 : decode cX11_spelt 69 = .ok (.lsub, 1) := by decide +kernel
theorem dX11_spelt_70 : decode cX11_spelt 70 = .ok (.goto 5, 3) := by decide +kernel
theorem dX11_spelt_73 : decode cX11_spelt 73 = .ok (.lload 6, 2) := by decide +kernel
theorem dX11_spelt_75 : decode cX11_spelt 75 = .ok (.lstore 6, 2) := by decide +kernel
theorem dX11_spelt_77 : decode cX11_spelt 77 = .ok (.iinc 9 1, 3) := by decide +kernel
theorem dX11_spelt_80 : decode cX11_spelt 80 = .ok (.goto (-42), 3) := by decide +kernel
theorem dX11_spelt_83 : decode cX11_spelt 83 = .ok (.lload 6, 2) := by decide +kernel
theorem dX11_spelt_85 : decode cX11_spelt 85 = .ok (.lreturn, 1) := by decide +kernel
/-- the letters of a word, as the reference spells it -/
def spl (f : Nat → Int32) : Nat → Int32 → Int64 → Option Int64
  | 0, _, _ => none
  | n + 1, i, v => if 6 ≤ i then some v else (if 0 ≤ i.toInt ∧ i.toInt < 6 then (if f i.toNatClampNeg ≤ 0 then spl f n (i + 1) v else spl f n (i + 1) (27 * v + (f i.toNatClampNeg).toInt64 - 96)) else none)
def spf (p0 p1 p2 p3 p4 p5 : Int32) : Nat → Int32 := upd (upd (upd (upd (upd (upd (fun _ => 0) (0 : Int32).toNatClampNeg p0) (1 : Int32).toNatClampNeg p1) (2 : Int32).toNatClampNeg p2) (3 : Int32).toNatClampNeg p3) (4 : Int32).toNatClampNeg p4) (5 : Int32).toNatClampNeg p5
def f_X11_spelt (p0 p1 p2 p3 p4 p5 : Int32) (σ : ST) : Option ((Int64 × ST) × Nat) := (spl (spf p0 p1 p2 p3 p4 p5) 7 0 0).bind fun r => some ((r, σ), 1)
set_option maxRecDepth 100000 in
theorem sp_loop {p : Program} {l : Launch} {e : Env} {R : Room} {s : State} {m : MethodId} {args : Array Value} {below : List Frame} {meth : Method} {c : Code} {Q : State → Prop} {dC : Nat → ClassId} {dI : Nat → Nat → Nat} {A : Nat → Prop} {qn : Nat} {cn : ClassId} {f : Nat → Int32} (hx : p.tables.exec = Jvm.exec) (hb : c.code = cX11_spelt) (hown : s.vm.findClass RX11 = some m.cls) (hts : ∀ w ∈ pw, w.before args s = true) (hK : va_K (dC, dI) vwCl [(cn, .int)] s) {r : Int64}
    (kk : ∀ (H : Heap) (locs : List Loc) (ls : Array Slot), va_S A s.heap H locs → lv_has ls 10 [(6, .long r)] → W p l e R s m args below meth c H locs 1 6 Q (F0 m 83 ls [])) :
    ∀ (n : Nat) (i : Int32) (v : Int64), spl f n i v = some r → ∀ (H : Heap) (locs : List Loc) (ls : Array Slot), va_P (dC, dI) vwCl [(qn, .inl (cn, 6, .inl f))] H → va_S A s.heap H locs → lv_has ls 10 [(6, .long v), (8, .ref qn), (9, .int i)] → W p l e R s m args below meth c H locs 1 6 Q (F0 m 38 ls []) := by
  intro n
  induction n with
  | zero =>
    intro i v h
    rw [spl] at h
    cases h
  | succ n ih =>
    intro i v h H locs ls hP hS hl
    rw [spl] at h
    refine lv_iload hx hb dX11_spelt_38 (lv_at hl 2 rfl) ?_
    refine lv_bipush (v := 6) hx hb dX11_spelt_40 (by decide) ?_
    refine lv_icmp_ge (tgt := 83) hx hb dX11_spelt_42 (by decide) (fun hc => ?_) (fun hc => ?_)
    · replace h := ip hc h
      obtain rfl := Option.some.inj h
      exact kk H locs ls hS (lv_sub hl [0] rfl)
    · replace h := iq hc h
      obtain ⟨hg, h⟩ := ig h
      refine lv_aload hx hb dX11_spelt_45 (lv_at hl 1 rfl) ?_
      refine lv_iload hx hb dX11_spelt_47 (lv_at hl 2 rfl) ?_
      refine va_iald hx hb hK hP 0 0 rfl rfl (vp_in_iff.mpr hg) dX11_spelt_49 ?_
      refine lv_if_le (tgt := 73) hx hb dX11_spelt_50 (by decide) (fun hc => ?_) (fun hc => ?_)
      · replace h := ip hc h
        refine lv_lload hx hb dX11_spelt_73 (lv_at hl 0 rfl) ?_
        refine lv_lstore (lv' := [(6, .long v), (8, .ref qn), (9, .int i)]) hx hb dX11_spelt_75 hl (by decide) rfl (fun ls hl => ?_)
        refine lv_iinc (v := (i + 1)) (lv' := [(9, .int (i + 1)), (6, .long v), (8, .ref qn)]) hx hb dX11_spelt_77 hl (k := 2) rfl rfl (by decide) rfl (fun ls hl => ?_)
        refine lv_goto (tgt := 38) hx hb dX11_spelt_80 (by decide) ?_
        exact ih _ _ h _ _ _ hP hS (lv_sub hl [1, 2, 0] rfl)
      · replace h := iq hc h
        refine lv_ldc2 (v := 27) hx hb hown (hts (.constantLong RX11 222 (27)) mw_29_12) dX11_spelt_53 ?_
        refine lv_lload hx hb dX11_spelt_56 (lv_at hl 0 rfl) ?_
        refine lv_lmul hx hb dX11_spelt_58 ?_
        refine lv_aload hx hb dX11_spelt_59 (lv_at hl 1 rfl) ?_
        refine lv_iload hx hb dX11_spelt_61 (lv_at hl 2 rfl) ?_
        refine va_iald hx hb hK hP 0 0 rfl rfl (vp_in_iff.mpr hg) dX11_spelt_63 ?_
        refine lv_i2l (v := (f i.toNatClampNeg).toInt64) hx hb dX11_spelt_64 rfl ?_
        refine lv_ladd hx hb dX11_spelt_65 ?_
        refine lv_ldc2 (v := 96) hx hb hown (hts (.constantLong RX11 224 (96)) mw_29_13) dX11_spelt_66 ?_
        refine lv_lsub hx hb dX11_spelt_69 ?_
        refine lv_goto (tgt := 75) hx hb dX11_spelt_70 (by decide) ?_
        refine lv_lstore (lv' := [(6, .long (27 * v + (f i.toNatClampNeg).toInt64 - 96)), (8, .ref qn), (9, .int i)]) hx hb dX11_spelt_75 hl (by decide) rfl (fun ls hl => ?_)
        refine lv_iinc (v := (i + 1)) (lv' := [(9, .int (i + 1)), (6, .long (27 * v + (f i.toNatClampNeg).toInt64 - 96)), (8, .ref qn)]) hx hb dX11_spelt_77 hl (k := 2) rfl rfl (by decide) rfl (fun ls hl => ?_)
        refine lv_goto (tgt := 38) hx hb dX11_spelt_80 (by decide) ?_
        exact ih _ _ h _ _ _ hP hS (lv_sub hl [1, 2, 0] rfl)
set_option maxRecDepth 100000 in
set_option maxHeartbeats 4000000 in
theorem s_X11_spelt {l : Launch} {dC : Nat → ClassId} {dI : Nat → Nat → Nat} {a : Nat → Nat} {k : Nat → ClassId} {sz : Nat} {p0 p1 p2 p3 p4 p5 : Int32} {σ : ST} {q : Int64 × ST} {r : Nat} (h : f_X11_spelt p0 p1 p2 p3 p4 p5 σ = some (q, r)) : Met l yX11_spelt (.code yX11_spelt cX11_spelt 10 (some .long) :: pw) ({ frames := 0, cells := r, slots := 6 * r, locals := 0 } : Room) (va_Pc [.int p0, .int p1, .int p2, .int p3, .int p4, .int p5] (vPre dC dI (wB a k σ) (tB k) sz)) (qBl dC dI a k (va_A (wB a k σ) sz) q) r (6 * r) (va_A (wB a k σ) sz) := by
  obtain ⟨r1, h1, h2⟩ := ib h
  obtain ⟨rfl, rfl⟩ := Prod.mk.inj (Option.some.inj h2)
  refine Met.ofWF (cc := cX11_spelt) (maxL := 10) (ret := some .long) (plainFor_of_name (by decide)) rfl ?_
  intro p e s m args below meth c s₁ B hml hv
  obtain ⟨rfl, hsz, hPB, hK, hD0, hN⟩ := hv
  have hx := B.exec
  have hb := B.bytes
  have hr := B.returns
  have hts := atoms_spec (ws := .code yX11_spelt cX11_spelt 10 (some .long) :: pw) B.pre
  have hts : ∀ w ∈ pw, w.before _ s = true := fun w h => hts w (List.mem_cons_of_mem _ h)
  have hown : s.vm.findClass RX11 = some m.cls := findClass_of_methodNamed B.named
  have hlocks := B.notSynchronized
  subst hsz
  obtain ⟨A0, hA0e⟩ : ∃ A0 : Nat → Prop, A0 = fun q => s.heap.size ≤ q := ⟨_, rfl⟩
  have hA0 : ∀ q : Nat, s.heap.size ≤ q → A0 q := fun q h => by rw [hA0e]; exact h
  have hP0 : va_P (dC, dI) vwCl [] s.heap := fun i p hp => by cases hp
  have hD1 : va_D A0 [] := ⟨(fun i j p q hp => by cases hp), (fun i q hp => by cases hp)⟩
  have hS : va_S A0 s.heap s.heap [] := va_S.rf
  have hK0 : va_K (dC, dI) vwCl [] s := hK.sub [] rfl
  have hl := lv_entry ([.int p0, .int p1, .int p2, .int p3, .int p4, .int p5]) (n := 10) (Nat.le_of_ble_eq_true rfl)
  rw [lg_entry_eq]
  generalize (lg_sl ([.int p0, .int p1, .int p2, .int p3, .int p4, .int p5]) ++ List.replicate (10 - (lg_sl ([.int p0, .int p1, .int p2, .int p3, .int p4, .int p5])).length) Slot.unset).toArray = ls at hl ⊢
  replace hl : lv_has ls 10 [(0, .int p0), (1, .int p1), (2, .int p2), (3, .int p3), (4, .int p4), (5, .int p5)] := hl
  refine lv_lconst (v := 0) hx hb dX11_spelt_0 (by decide) ?_
  refine lv_lstore (lv' := [(6, .long 0), (0, .int p0), (1, .int p1), (2, .int p2), (3, .int p3), (4, .int p4), (5, .int p5)]) hx hb dX11_spelt_1 hl (by decide) rfl (fun ls hl => ?_)
  refine lv_bipush (v := 6) hx hb dX11_spelt_3 (by decide) ?_
  refine va_newa (atype := .int) hx hb (hts (.arrayClass .int) mw_0_1) (ty := .int) rfl hK0 hP0 hD1 hS hA0 (n := 6) (N' := 6) (a0 := (6, .inl (fun _ => 0))) (fun _ => rfl) (by decide) (by decide) (Nat.le_of_ble_eq_true rfl) (Nat.le_of_ble_eq_true rfl) (Nat.le_of_ble_eq_true rfl) dX11_spelt_5 (fun qn cn H hK1 hP hD hS => ?_)
  replace hP : va_P (dC, dI) vwCl [(qn, .inl (cn, 6, .inl (fun _ => 0)))] H := hP
  replace hD : va_D A0 [(qn, .inl (cn, 6, .inl (fun _ => 0)))] := hD
  replace hK1 : va_K (dC, dI) vwCl [(cn, .int)] s := hK1
  refine W.widen (k := 1) (n := 6) (Nat.le_of_ble_eq_true rfl) (Nat.le_of_ble_eq_true rfl) ?_
  refine lv_dup hx hb dX11_spelt_7 rfl ?_
  refine lv_iconst (v := 0) hx hb dX11_spelt_8 (by decide) ?_
  refine lv_iload_n hx hb dX11_spelt_9 rfl (lv_at hl 1 rfl) ?_
  refine va_iast hx hb hK1 hP hD hS 0 0 rfl rfl (vp_in_iff.mpr (by decide)) dX11_spelt_10 (fun H locs hP hD hS => ?_)
  replace hP : va_P (dC, dI) vwCl [(qn, .inl (cn, 6, .inl (upd (fun _ => 0) (0 : Int32).toNatClampNeg p0)))] H := hP
  replace hD : va_D A0 [(qn, .inl (cn, 6, .inl (upd (fun _ => 0) (0 : Int32).toNatClampNeg p0)))] := hD
  refine lv_dup hx hb dX11_spelt_11 rfl ?_
  refine lv_iconst (v := 1) hx hb dX11_spelt_12 (by decide) ?_
  refine lv_iload_n hx hb dX11_spelt_13 rfl (lv_at hl 2 rfl) ?_
  refine va_iast hx hb hK1 hP hD hS 0 0 rfl rfl (vp_in_iff.mpr (by decide)) dX11_spelt_14 (fun H locs hP hD hS => ?_)
  replace hP : va_P (dC, dI) vwCl [(qn, .inl (cn, 6, .inl (upd (upd (fun _ => 0) (0 : Int32).toNatClampNeg p0) (1 : Int32).toNatClampNeg p1)))] H := hP
  replace hD : va_D A0 [(qn, .inl (cn, 6, .inl (upd (upd (fun _ => 0) (0 : Int32).toNatClampNeg p0) (1 : Int32).toNatClampNeg p1)))] := hD
  refine lv_dup hx hb dX11_spelt_15 rfl ?_
  refine lv_iconst (v := 2) hx hb dX11_spelt_16 (by decide) ?_
  refine lv_iload_n hx hb dX11_spelt_17 rfl (lv_at hl 3 rfl) ?_
  refine va_iast hx hb hK1 hP hD hS 0 0 rfl rfl (vp_in_iff.mpr (by decide)) dX11_spelt_18 (fun H locs hP hD hS => ?_)
  replace hP : va_P (dC, dI) vwCl [(qn, .inl (cn, 6, .inl (upd (upd (upd (fun _ => 0) (0 : Int32).toNatClampNeg p0) (1 : Int32).toNatClampNeg p1) (2 : Int32).toNatClampNeg p2)))] H := hP
  replace hD : va_D A0 [(qn, .inl (cn, 6, .inl (upd (upd (upd (fun _ => 0) (0 : Int32).toNatClampNeg p0) (1 : Int32).toNatClampNeg p1) (2 : Int32).toNatClampNeg p2)))] := hD
  refine lv_dup hx hb dX11_spelt_19 rfl ?_
  refine lv_iconst (v := 3) hx hb dX11_spelt_20 (by decide) ?_
  refine lv_iload_n hx hb dX11_spelt_21 rfl (lv_at hl 4 rfl) ?_
  refine va_iast hx hb hK1 hP hD hS 0 0 rfl rfl (vp_in_iff.mpr (by decide)) dX11_spelt_22 (fun H locs hP hD hS => ?_)
  replace hP : va_P (dC, dI) vwCl [(qn, .inl (cn, 6, .inl (upd (upd (upd (upd (fun _ => 0) (0 : Int32).toNatClampNeg p0) (1 : Int32).toNatClampNeg p1) (2 : Int32).toNatClampNeg p2) (3 : Int32).toNatClampNeg p3)))] H := hP
  replace hD : va_D A0 [(qn, .inl (cn, 6, .inl (upd (upd (upd (upd (fun _ => 0) (0 : Int32).toNatClampNeg p0) (1 : Int32).toNatClampNeg p1) (2 : Int32).toNatClampNeg p2) (3 : Int32).toNatClampNeg p3)))] := hD
  refine lv_dup hx hb dX11_spelt_23 rfl ?_
  refine lv_iconst (v := 4) hx hb dX11_spelt_24 (by decide) ?_
  refine lv_iload hx hb dX11_spelt_25 (lv_at hl 5 rfl) ?_
  refine va_iast hx hb hK1 hP hD hS 0 0 rfl rfl (vp_in_iff.mpr (by decide)) dX11_spelt_27 (fun H locs hP hD hS => ?_)
  replace hP : va_P (dC, dI) vwCl [(qn, .inl (cn, 6, .inl (upd (upd (upd (upd (upd (fun _ => 0) (0 : Int32).toNatClampNeg p0) (1 : Int32).toNatClampNeg p1) (2 : Int32).toNatClampNeg p2) (3 : Int32).toNatClampNeg p3) (4 : Int32).toNatClampNeg p4)))] H := hP
  replace hD : va_D A0 [(qn, .inl (cn, 6, .inl (upd (upd (upd (upd (upd (fun _ => 0) (0 : Int32).toNatClampNeg p0) (1 : Int32).toNatClampNeg p1) (2 : Int32).toNatClampNeg p2) (3 : Int32).toNatClampNeg p3) (4 : Int32).toNatClampNeg p4)))] := hD
  refine lv_dup hx hb dX11_spelt_28 rfl ?_
  refine lv_iconst (v := 5) hx hb dX11_spelt_29 (by decide) ?_
  refine lv_iload hx hb dX11_spelt_30 (lv_at hl 6 rfl) ?_
  refine va_iast hx hb hK1 hP hD hS 0 0 rfl rfl (vp_in_iff.mpr (by decide)) dX11_spelt_32 (fun H locs hP hD hS => ?_)
  replace hP : va_P (dC, dI) vwCl [(qn, .inl (cn, 6, .inl (upd (upd (upd (upd (upd (upd (fun _ => 0) (0 : Int32).toNatClampNeg p0) (1 : Int32).toNatClampNeg p1) (2 : Int32).toNatClampNeg p2) (3 : Int32).toNatClampNeg p3) (4 : Int32).toNatClampNeg p4) (5 : Int32).toNatClampNeg p5)))] H := hP
  replace hD : va_D A0 [(qn, .inl (cn, 6, .inl (upd (upd (upd (upd (upd (upd (fun _ => 0) (0 : Int32).toNatClampNeg p0) (1 : Int32).toNatClampNeg p1) (2 : Int32).toNatClampNeg p2) (3 : Int32).toNatClampNeg p3) (4 : Int32).toNatClampNeg p4) (5 : Int32).toNatClampNeg p5)))] := hD
  refine lv_astore (lv' := [(8, .ref qn), (6, .long 0), (0, .int p0), (1, .int p1), (2, .int p2), (3, .int p3), (4, .int p4), (5, .int p5)]) hx hb dX11_spelt_33 hl (by decide) rfl (fun ls hl => ?_)
  refine lv_iconst (v := 0) hx hb dX11_spelt_35 (by decide) ?_
  refine lv_istore (lv' := [(9, .int 0), (8, .ref qn), (6, .long 0), (0, .int p0), (1, .int p1), (2, .int p2), (3, .int p3), (4, .int p4), (5, .int p5)]) hx hb dX11_spelt_36 hl (by decide) rfl (fun ls hl => ?_)
  refine sp_loop (r := r1) (A := A0) hx hb hown hts hK1 (fun H locs ls hS hl => ?_) 7 0 0 h1 _ _ _ hP hS (lv_sub hl [2, 1, 0] rfl)
  refine lv_lload hx hb dX11_spelt_83 (lv_at hl 0 rfl) ?_
  exact W.lret hx hb hr (fun t ht hW => ⟨⟨_, (), rfl, rfl, ⟨fun i p hp => (hPB i p hp).kept (by rw [ht]; exact hS.2.1 p.1 (hPB i p hp).lt (by rw [hA0e]; exact Nat.not_le_of_lt (hPB i p hp).lt)), va_K.moved hW.alike hK, hD0.self⟩⟩, ⟨by rw [ht]; exact hS.1, fun q h1 h2 => by rw [ht]; exact hS.2.1 q h1 (by rw [hA0e]; exact Nat.not_le_of_lt h1)⟩⟩) (fun q hq => Or.inr (by have z := hS.2.2 q hq; rw [hA0e] at z; exact z)) dX11_spelt_85

